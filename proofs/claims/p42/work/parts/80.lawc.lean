/-! ===== the law on every script ===== -/
theorem bm_eq {k : Nat} {a b a' b' : Nat → Int32} (h : a' = bmT k a) (g : b' = bmT k b) (e : ∀ j, j < 6 → a j = b j) : ∀ j, j < 6 → a' j = b' j := by
  intro j hj
  rw [h, g]
  by_cases z : k = 0
  · rw [z, bm_0, bm_0]; exact e j hj
  · rw [bm_k z, bm_k z]
    by_cases y : j = k
    · subst y
      rw [pk_us, pk_us, e j hj]
    · rw [pk_un y, pk_un y]; exact e j hj
theorem told_eq {i : Int32} {a b : Nat → Int32} (e : ∀ j, j < 6 → a j = b j) : z_told i a = z_told i b := by
  unfold z_told
  by_cases z : 1 ≤ i.toInt ∧ i.toInt ≤ 5
  · rw [if_pos z, if_pos z]
    obtain ⟨k, hk, rfl, ek⟩ := nI_ofx i (n := 6) ⟨by omega, by omega⟩ (by decide)
    rw [ek, e k (by omega)]
  · rw [if_neg z, if_neg z]
abbrev xK1 : xKo := fun r _ => r = some (.int 1)
abbrev xl1 (i : Int32) : xL := [(0, .float 3), (1, .ref 0), (2, .ref 70), (3, .int i)]
def lwI (n : Nat) (w : xW) : Prop := ∃ F v F2 v2 σ, w = xfill F v 0 wH0 ++ xfill F2 v2 0 (wM0 70) ∧ HR n σ F v ∧ MR n σ F2 v2 ∧ ∀ j, j < 6 → F 69 j = F2 5 j
theorem lw_ix {L i : Nat} (k : Nat) (h : i + k < L) (hL : L ≤ 3072) : vp_in (nI i + nI k) L := by
  rw [nI_add]
  exact vp_in_nI (by omega) (by omega)
theorem lw_end {L i : Nat} (hL : L ≤ 3072) (hi : i ≤ 3072) : nI L - nI 6 < nI i ↔ L < i + 6 := by
  rw [xlt, Int32.toInt_sub, nI_toInt (by omega), nI_toInt (by omega), nI_toInt (by omega)]
  have e : ((L : Int) - (6 : Nat)).bmod (2 ^ 32) = (L : Int) - 6 := Int.bmod_eq_of_le (by omega) (by omega)
  rw [e]
  omega
theorem xWP_step {prog : List xEl} {K : xKo} {pc : Nat} {ls : xL} {st : List Value} {w : xW} {b : xB} {e e2 : xEl} {r : List xEl} (ks : List Nat) (hs : xseek prog pc = e :: e2 :: r) (h : ∀ P : Nat → xL → List Value → xW → xB → Prop, (∀ pc ls st w b, xWP prog K pc ls st w b → P pc ls st w b) → ∀ go : Option Nat → xL → List Value → xW → xB → Prop, (∀ ls' st' w' b', xkeep ks ls' (fun l => P e2.1 l st' w' b') → go none ls' st' w' b') → e.2.2.2 ls st w b go K) : xWP prog K pc ls st w b := by
  refine xWP_go 1 [(e2.1, ks)] fun P hP => ?_
  rw [hs]
  refine h P hP _ (fun ls' st' w' b' k => ?_)
  have q : xcut e2.1 [(e2.1, ks)] = some ks := by
    unfold xcut
    rw [Nat.beq_refl]
  show (match xcut e2.1 [(e2.1, ks)] with
      | some ks => xkeep ks ls' (fun l => P e2.1 l st' w' b')
      | none => xrun prog [(e2.1, ks)] P K 0 (e2 :: r) ls' st' w' b')
  rw [q]
  exact k
set_option maxRecDepth 100000 in
theorem xwHgen {prog : List xEl} {K : xKo} {pc n : Nat} {C : xPT} {ins : Instr} {ln : Nat} {e2 : xEl} {r : List xEl} {as st st' : List Value} {i : Int32} {F v F2 v2 : xS} {b : xB} (hs : xseek prog pc = (pc, ins, ln, xs_call false 600000 7302250 0 0 (some 5) n C) :: e2 :: r) (hp : ∀ k, xpop n st [] k = k (.ref 0 :: as) st') (hna : xna as = true) (hc : Nat.ble (st'.map fun v => v.category).sum 8 = true) (Q : Int32 → xS → xS → Prop) (hC : ∀ K : xKo, (∀ r F' v', Q r F' v' → K (some (.int r)) (xfill F' v' 0 wH0)) → C (.ref 0 :: as) (xfill F v 0 wH0) K) (h : ∀ r F' v' b', Q r F' v' → xWP prog K e2.1 (xl1 i) (.int r :: st') (xfill F' v' 0 wH0 ++ xfill F2 v2 0 (wM0 70)) b') : xWP prog K pc (xl1 i) st (xfill F v 0 wH0 ++ xfill F2 v2 0 (wM0 70)) b := by
  refine xWP_step [0, 1, 2, 3] hs fun P hP go hgo => ?_
  refine xcall_na (K := K) hp hna hc rfl ?_
  exact fun X e => by subst e; exact hC _ (fun r F' v' q => hgo _ _ _ _ (hP _ _ _ _ _ (h r F' v' _ q)))
set_option maxRecDepth 100000 in
theorem xwMgen {prog : List xEl} {K : xKo} {pc n : Nat} {C : xPT} {ins : Instr} {ln : Nat} {e2 : xEl} {r : List xEl} {as st st' : List Value} {i : Int32} {F v F2 v2 : xS} {b : xB} (hs : xseek prog pc = (pc, ins, ln, xs_call false 600000 7302250 0 0 (some 6) n C) :: e2 :: r) (hp : ∀ k, xpop n st [] k = k (.ref 70 :: as) st') (hna : xna as = true) (hc : Nat.ble (st'.map fun v => v.category).sum 8 = true) (Q : Int32 → xS → xS → Prop) (hC : ∀ K : xKo, (∀ r F' v', Q r F' v' → K (some (.int r)) (xfill F' v' 0 (wM0 0))) → C (.ref 0 :: as) (xfill F2 v2 0 (wM0 0)) K) (h : ∀ r F' v' b', Q r F' v' → xWP prog K e2.1 (xl1 i) (.int r :: st') (xfill F v 0 wH0 ++ xfill F' v' 0 (wM0 70)) b') : xWP prog K pc (xl1 i) st (xfill F v 0 wH0 ++ xfill F2 v2 0 (wM0 70)) b := by
  refine xWP_step [0, 1, 2, 3] hs fun P hP go hgo => ?_
  refine xcall_na (K := K) hp hna hc rfl ?_
  exact fun X e => by subst e; exact hC _ (fun r F' v' q => hgo _ _ _ _ (hP _ _ _ _ _ (h r F' v' _ q)))
theorem lw_bk (L : Nat) (xs : Nat → Int32) {i : Int32} {w : xW} {b : xB} (h : xWP (pg_Z_law L xs) xK1 18 (xl1 (i + 6)) [] w b) : xWP (pg_Z_law L xs) xK1 1575 (xl1 i) [] w b := by
  refine xWP_go 60 [(18, [0, 1, 2, 3])] fun P hP => ?_
  rw [(cp_Z_28 L xs (q := 1575) (Nat.le_of_ble_eq_true rfl))]
  refine hP _ _ _ _ _ ?_
  exact h
theorem xwHii {prog : List xEl} {K : xKo} {pc : Nat} {C : xPT} {ins : Instr} {ln : Nat} {e2 : xEl} {r : List xEl} (x0 : Int32) (x1 : Int32) {i : Int32} {F v F2 v2 : xS} {b : xB} (hs : xseek prog pc = (pc, ins, ln, xs_call false 600000 7302250 0 0 (some 5) 3 C) :: e2 :: r) (Q : Int32 → xS → xS → Prop) (hC : ∀ K : xKo, (∀ r F' v', Q r F' v' → K (some (.int r)) (xfill F' v' 0 wH0)) → C [.ref 0, .int x0, .int x1] (xfill F v 0 wH0) K) (h : ∀ r F' v' b', Q r F' v' → xWP prog K e2.1 (xl1 i) [.int r] (xfill F' v' 0 wH0 ++ xfill F2 v2 0 (wM0 70)) b') : xWP prog K pc (xl1 i) [.int x1, .int x0, .ref 0] (xfill F v 0 wH0 ++ xfill F2 v2 0 (wM0 70)) b :=
  xwHgen (as := [.int x0, .int x1]) (st' := []) hs (fun _ => rfl) rfl rfl Q hC h
theorem xwMii {prog : List xEl} {K : xKo} {pc : Nat} {C : xPT} {ins : Instr} {ln : Nat} {e2 : xEl} {r : List xEl} (x0 : Int32) (x1 : Int32) {i : Int32} {F v F2 v2 : xS} {b : xB} (hs : xseek prog pc = (pc, ins, ln, xs_call false 600000 7302250 0 0 (some 6) 3 C) :: e2 :: r) (Q : Int32 → xS → xS → Prop) (hC : ∀ K : xKo, (∀ r F' v', Q r F' v' → K (some (.int r)) (xfill F' v' 0 (wM0 0))) → C [.ref 0, .int x0, .int x1] (xfill F2 v2 0 (wM0 0)) K) (h : ∀ r F' v' b', Q r F' v' → xWP prog K e2.1 (xl1 i) [.int r] (xfill F v 0 wH0 ++ xfill F' v' 0 (wM0 70)) b') : xWP prog K pc (xl1 i) [.int x1, .int x0, .ref 70] (xfill F v 0 wH0 ++ xfill F2 v2 0 (wM0 70)) b :=
  xwMgen (as := [.int x0, .int x1]) (st' := []) hs (fun _ => rfl) rfl rfl Q hC h
theorem xwHiii {prog : List xEl} {K : xKo} {pc : Nat} {C : xPT} {ins : Instr} {ln : Nat} {e2 : xEl} {r : List xEl} (x0 : Int32) (x1 : Int32) (x2 : Int32) {i : Int32} {F v F2 v2 : xS} {b : xB} (hs : xseek prog pc = (pc, ins, ln, xs_call false 600000 7302250 0 0 (some 5) 4 C) :: e2 :: r) (Q : Int32 → xS → xS → Prop) (hC : ∀ K : xKo, (∀ r F' v', Q r F' v' → K (some (.int r)) (xfill F' v' 0 wH0)) → C [.ref 0, .int x0, .int x1, .int x2] (xfill F v 0 wH0) K) (h : ∀ r F' v' b', Q r F' v' → xWP prog K e2.1 (xl1 i) [.int r] (xfill F' v' 0 wH0 ++ xfill F2 v2 0 (wM0 70)) b') : xWP prog K pc (xl1 i) [.int x2, .int x1, .int x0, .ref 0] (xfill F v 0 wH0 ++ xfill F2 v2 0 (wM0 70)) b :=
  xwHgen (as := [.int x0, .int x1, .int x2]) (st' := []) hs (fun _ => rfl) rfl rfl Q hC h
theorem xwMiii {prog : List xEl} {K : xKo} {pc : Nat} {C : xPT} {ins : Instr} {ln : Nat} {e2 : xEl} {r : List xEl} (x0 : Int32) (x1 : Int32) (x2 : Int32) {i : Int32} {F v F2 v2 : xS} {b : xB} (hs : xseek prog pc = (pc, ins, ln, xs_call false 600000 7302250 0 0 (some 6) 4 C) :: e2 :: r) (Q : Int32 → xS → xS → Prop) (hC : ∀ K : xKo, (∀ r F' v', Q r F' v' → K (some (.int r)) (xfill F' v' 0 (wM0 0))) → C [.ref 0, .int x0, .int x1, .int x2] (xfill F2 v2 0 (wM0 0)) K) (h : ∀ r F' v' b', Q r F' v' → xWP prog K e2.1 (xl1 i) [.int r] (xfill F v 0 wH0 ++ xfill F' v' 0 (wM0 70)) b') : xWP prog K pc (xl1 i) [.int x2, .int x1, .int x0, .ref 70] (xfill F v 0 wH0 ++ xfill F2 v2 0 (wM0 70)) b :=
  xwMgen (as := [.int x0, .int x1, .int x2]) (st' := []) hs (fun _ => rfl) rfl rfl Q hC h
theorem xwHi {prog : List xEl} {K : xKo} {pc : Nat} {C : xPT} {ins : Instr} {ln : Nat} {e2 : xEl} {r : List xEl} (x0 : Int32) {i : Int32} {F v F2 v2 : xS} {b : xB} (hs : xseek prog pc = (pc, ins, ln, xs_call false 600000 7302250 0 0 (some 5) 2 C) :: e2 :: r) (Q : Int32 → xS → xS → Prop) (hC : ∀ K : xKo, (∀ r F' v', Q r F' v' → K (some (.int r)) (xfill F' v' 0 wH0)) → C [.ref 0, .int x0] (xfill F v 0 wH0) K) (h : ∀ r F' v' b', Q r F' v' → xWP prog K e2.1 (xl1 i) [.int r] (xfill F' v' 0 wH0 ++ xfill F2 v2 0 (wM0 70)) b') : xWP prog K pc (xl1 i) [.int x0, .ref 0] (xfill F v 0 wH0 ++ xfill F2 v2 0 (wM0 70)) b :=
  xwHgen (as := [.int x0]) (st' := []) hs (fun _ => rfl) rfl rfl Q hC h
theorem xwMi {prog : List xEl} {K : xKo} {pc : Nat} {C : xPT} {ins : Instr} {ln : Nat} {e2 : xEl} {r : List xEl} (x0 : Int32) {i : Int32} {F v F2 v2 : xS} {b : xB} (hs : xseek prog pc = (pc, ins, ln, xs_call false 600000 7302250 0 0 (some 6) 2 C) :: e2 :: r) (Q : Int32 → xS → xS → Prop) (hC : ∀ K : xKo, (∀ r F' v', Q r F' v' → K (some (.int r)) (xfill F' v' 0 (wM0 0))) → C [.ref 0, .int x0] (xfill F2 v2 0 (wM0 0)) K) (h : ∀ r F' v' b', Q r F' v' → xWP prog K e2.1 (xl1 i) [.int r] (xfill F v 0 wH0 ++ xfill F' v' 0 (wM0 70)) b') : xWP prog K pc (xl1 i) [.int x0, .ref 70] (xfill F v 0 wH0 ++ xfill F2 v2 0 (wM0 70)) b :=
  xwMgen (as := [.int x0]) (st' := []) hs (fun _ => rfl) rfl rfl Q hC h
theorem xwHli {prog : List xEl} {K : xKo} {pc : Nat} {C : xPT} {ins : Instr} {ln : Nat} {e2 : xEl} {r : List xEl} (x0 : Int64) (x1 : Int32) {i : Int32} {F v F2 v2 : xS} {b : xB} (hs : xseek prog pc = (pc, ins, ln, xs_call false 600000 7302250 0 0 (some 5) 3 C) :: e2 :: r) (Q : Int32 → xS → xS → Prop) (hC : ∀ K : xKo, (∀ r F' v', Q r F' v' → K (some (.int r)) (xfill F' v' 0 wH0)) → C [.ref 0, .long x0, .int x1] (xfill F v 0 wH0) K) (h : ∀ r F' v' b', Q r F' v' → xWP prog K e2.1 (xl1 i) [.int r] (xfill F' v' 0 wH0 ++ xfill F2 v2 0 (wM0 70)) b') : xWP prog K pc (xl1 i) [.int x1, .long x0, .ref 0] (xfill F v 0 wH0 ++ xfill F2 v2 0 (wM0 70)) b :=
  xwHgen (as := [.long x0, .int x1]) (st' := []) hs (fun _ => rfl) rfl rfl Q hC h
theorem xwMli {prog : List xEl} {K : xKo} {pc : Nat} {C : xPT} {ins : Instr} {ln : Nat} {e2 : xEl} {r : List xEl} (x0 : Int64) (x1 : Int32) {i : Int32} {F v F2 v2 : xS} {b : xB} (hs : xseek prog pc = (pc, ins, ln, xs_call false 600000 7302250 0 0 (some 6) 3 C) :: e2 :: r) (Q : Int32 → xS → xS → Prop) (hC : ∀ K : xKo, (∀ r F' v', Q r F' v' → K (some (.int r)) (xfill F' v' 0 (wM0 0))) → C [.ref 0, .long x0, .int x1] (xfill F2 v2 0 (wM0 0)) K) (h : ∀ r F' v' b', Q r F' v' → xWP prog K e2.1 (xl1 i) [.int r] (xfill F v 0 wH0 ++ xfill F' v' 0 (wM0 70)) b') : xWP prog K pc (xl1 i) [.int x1, .long x0, .ref 70] (xfill F v 0 wH0 ++ xfill F2 v2 0 (wM0 70)) b :=
  xwMgen (as := [.long x0, .int x1]) (st' := []) hs (fun _ => rfl) rfl rfl Q hC h
theorem xwHiiii {prog : List xEl} {K : xKo} {pc : Nat} {C : xPT} {ins : Instr} {ln : Nat} {e2 : xEl} {r : List xEl} (x0 : Int32) (x1 : Int32) (x2 : Int32) (x3 : Int32) {i : Int32} {F v F2 v2 : xS} {b : xB} (hs : xseek prog pc = (pc, ins, ln, xs_call false 600000 7302250 0 0 (some 5) 5 C) :: e2 :: r) (Q : Int32 → xS → xS → Prop) (hC : ∀ K : xKo, (∀ r F' v', Q r F' v' → K (some (.int r)) (xfill F' v' 0 wH0)) → C [.ref 0, .int x0, .int x1, .int x2, .int x3] (xfill F v 0 wH0) K) (h : ∀ r F' v' b', Q r F' v' → xWP prog K e2.1 (xl1 i) [.int r] (xfill F' v' 0 wH0 ++ xfill F2 v2 0 (wM0 70)) b') : xWP prog K pc (xl1 i) [.int x3, .int x2, .int x1, .int x0, .ref 0] (xfill F v 0 wH0 ++ xfill F2 v2 0 (wM0 70)) b :=
  xwHgen (as := [.int x0, .int x1, .int x2, .int x3]) (st' := []) hs (fun _ => rfl) rfl rfl Q hC h
theorem xwMiiii {prog : List xEl} {K : xKo} {pc : Nat} {C : xPT} {ins : Instr} {ln : Nat} {e2 : xEl} {r : List xEl} (x0 : Int32) (x1 : Int32) (x2 : Int32) (x3 : Int32) {i : Int32} {F v F2 v2 : xS} {b : xB} (hs : xseek prog pc = (pc, ins, ln, xs_call false 600000 7302250 0 0 (some 6) 5 C) :: e2 :: r) (Q : Int32 → xS → xS → Prop) (hC : ∀ K : xKo, (∀ r F' v', Q r F' v' → K (some (.int r)) (xfill F' v' 0 (wM0 0))) → C [.ref 0, .int x0, .int x1, .int x2, .int x3] (xfill F2 v2 0 (wM0 0)) K) (h : ∀ r F' v' b', Q r F' v' → xWP prog K e2.1 (xl1 i) [.int r] (xfill F v 0 wH0 ++ xfill F' v' 0 (wM0 70)) b') : xWP prog K pc (xl1 i) [.int x3, .int x2, .int x1, .int x0, .ref 70] (xfill F v 0 wH0 ++ xfill F2 v2 0 (wM0 70)) b :=
  xwMgen (as := [.int x0, .int x1, .int x2, .int x3]) (st' := []) hs (fun _ => rfl) rfl rfl Q hC h
theorem xwHiiiii {prog : List xEl} {K : xKo} {pc : Nat} {C : xPT} {ins : Instr} {ln : Nat} {e2 : xEl} {r : List xEl} (x0 : Int32) (x1 : Int32) (x2 : Int32) (x3 : Int32) (x4 : Int32) {i : Int32} {F v F2 v2 : xS} {b : xB} (hs : xseek prog pc = (pc, ins, ln, xs_call false 600000 7302250 0 0 (some 5) 6 C) :: e2 :: r) (Q : Int32 → xS → xS → Prop) (hC : ∀ K : xKo, (∀ r F' v', Q r F' v' → K (some (.int r)) (xfill F' v' 0 wH0)) → C [.ref 0, .int x0, .int x1, .int x2, .int x3, .int x4] (xfill F v 0 wH0) K) (h : ∀ r F' v' b', Q r F' v' → xWP prog K e2.1 (xl1 i) [.int r] (xfill F' v' 0 wH0 ++ xfill F2 v2 0 (wM0 70)) b') : xWP prog K pc (xl1 i) [.int x4, .int x3, .int x2, .int x1, .int x0, .ref 0] (xfill F v 0 wH0 ++ xfill F2 v2 0 (wM0 70)) b :=
  xwHgen (as := [.int x0, .int x1, .int x2, .int x3, .int x4]) (st' := []) hs (fun _ => rfl) rfl rfl Q hC h
theorem xwMiiiii {prog : List xEl} {K : xKo} {pc : Nat} {C : xPT} {ins : Instr} {ln : Nat} {e2 : xEl} {r : List xEl} (x0 : Int32) (x1 : Int32) (x2 : Int32) (x3 : Int32) (x4 : Int32) {i : Int32} {F v F2 v2 : xS} {b : xB} (hs : xseek prog pc = (pc, ins, ln, xs_call false 600000 7302250 0 0 (some 6) 6 C) :: e2 :: r) (Q : Int32 → xS → xS → Prop) (hC : ∀ K : xKo, (∀ r F' v', Q r F' v' → K (some (.int r)) (xfill F' v' 0 (wM0 0))) → C [.ref 0, .int x0, .int x1, .int x2, .int x3, .int x4] (xfill F2 v2 0 (wM0 0)) K) (h : ∀ r F' v' b', Q r F' v' → xWP prog K e2.1 (xl1 i) [.int r] (xfill F v 0 wH0 ++ xfill F' v' 0 (wM0 70)) b') : xWP prog K pc (xl1 i) [.int x4, .int x3, .int x2, .int x1, .int x0, .ref 70] (xfill F v 0 wH0 ++ xfill F2 v2 0 (wM0 70)) b :=
  xwMgen (as := [.int x0, .int x1, .int x2, .int x3, .int x4]) (st' := []) hs (fun _ => rfl) rfl rfl Q hC h
theorem xwH {prog : List xEl} {K : xKo} {pc : Nat} {C : xPT} {ins : Instr} {ln : Nat} {e2 : xEl} {r : List xEl}  {i : Int32} {F v F2 v2 : xS} {b : xB} (hs : xseek prog pc = (pc, ins, ln, xs_call false 600000 7302250 0 0 (some 5) 1 C) :: e2 :: r) (Q : Int32 → xS → xS → Prop) (hC : ∀ K : xKo, (∀ r F' v', Q r F' v' → K (some (.int r)) (xfill F' v' 0 wH0)) → C [.ref 0] (xfill F v 0 wH0) K) (h : ∀ r F' v' b', Q r F' v' → xWP prog K e2.1 (xl1 i) [.int r] (xfill F' v' 0 wH0 ++ xfill F2 v2 0 (wM0 70)) b') : xWP prog K pc (xl1 i) [.ref 0] (xfill F v 0 wH0 ++ xfill F2 v2 0 (wM0 70)) b :=
  xwHgen (as := []) (st' := []) hs (fun _ => rfl) rfl rfl Q hC h
theorem xwM {prog : List xEl} {K : xKo} {pc : Nat} {C : xPT} {ins : Instr} {ln : Nat} {e2 : xEl} {r : List xEl}  {i : Int32} {F v F2 v2 : xS} {b : xB} (hs : xseek prog pc = (pc, ins, ln, xs_call false 600000 7302250 0 0 (some 6) 1 C) :: e2 :: r) (Q : Int32 → xS → xS → Prop) (hC : ∀ K : xKo, (∀ r F' v', Q r F' v' → K (some (.int r)) (xfill F' v' 0 (wM0 0))) → C [.ref 0] (xfill F2 v2 0 (wM0 0)) K) (h : ∀ r F' v' b', Q r F' v' → xWP prog K e2.1 (xl1 i) [.int r] (xfill F v 0 wH0 ++ xfill F' v' 0 (wM0 70)) b') : xWP prog K pc (xl1 i) [.ref 70] (xfill F v 0 wH0 ++ xfill F2 v2 0 (wM0 70)) b :=
  xwMgen (as := []) (st' := []) hs (fun _ => rfl) rfl rfl Q hC h
theorem xwMi1 {prog : List xEl} {K : xKo} {pc : Nat} {C : xPT} {ins : Instr} {ln : Nat} {e2 : xEl} {r : List xEl} (x0 : Int32) {i : Int32} {y : Int32} {F v F2 v2 : xS} {b : xB} (hs : xseek prog pc = (pc, ins, ln, xs_call false 600000 7302250 0 0 (some 6) 2 C) :: e2 :: r) (Q : Int32 → xS → xS → Prop) (hC : ∀ K : xKo, (∀ r F' v', Q r F' v' → K (some (.int r)) (xfill F' v' 0 (wM0 0))) → C [.ref 0, .int x0] (xfill F2 v2 0 (wM0 0)) K) (h : ∀ r F' v' b', Q r F' v' → xWP prog K e2.1 (xl1 i) [.int r, .int y] (xfill F v 0 wH0 ++ xfill F' v' 0 (wM0 70)) b') : xWP prog K pc (xl1 i) [.int x0, .ref 70, .int y] (xfill F v 0 wH0 ++ xfill F2 v2 0 (wM0 70)) b :=
  xwMgen (as := [.int x0]) (st' := [.int y]) hs (fun _ => rfl) rfl rfl Q hC h
set_option maxRecDepth 100000 in
theorem lw_c0 (L : Nat) (hL : L ≤ 3072) (xs : Nat → Int32) (i n : Nat) (hi : i + 6 ≤ L) (hn : n < 1000) (F v F2 v2 : xS) (σ : xZ) (R : HR n σ F v) (R2 : MR n σ F2 v2) (EQ : ∀ j, j < 6 → F 69 j = F2 5 j) (b : xB) (hk : ∀ w b, lwI (n + 1) w → xWP (pg_Z_law L xs) xK1 18 (xl1 (nI i + 6)) [] w b) : xWP (pg_Z_law L xs) xK1 212 (xl1 (nI i)) [] (xfill F v 0 wH0 ++ xfill F2 v2 0 (wM0 70)) b := by
  refine xWP_go 60 [(223, [0, 1, 2, 3])] fun P hP => ?_
  refine ⟨rfl, lw_ix 1 (by omega) hL, ?_⟩
  refine ⟨rfl, lw_ix 2 (by omega) hL, ?_⟩
  refine hP _ _ _ _ _ ?_
  refine xwHii _ _ rfl (fun r F' v' => r = (f_thing _ _ σ.1).1 ∧ HR (n + 1) (g_thing _ _ σ.1, σ.2) F' v' ∧ F' 69 = bmT (f_thing _ _ σ.1).2 (F 69)) (fun K k => HX_thing n σ F v R _ _ (fun F' v' S' B' => k _ F' v' ⟨rfl, S', B'⟩)) (fun r F' v' b' q => ?_)
  obtain ⟨er, S', B'⟩ := q
  refine xWP_go 60 [(238, [0, 1, 2, 3])] fun P hP => ?_
  refine ⟨rfl, lw_ix 1 (by omega) hL, ?_⟩
  refine ⟨rfl, lw_ix 2 (by omega) hL, ?_⟩
  refine hP _ _ _ _ _ ?_
  refine xwMii _ _ rfl (fun r F' v' => r = (f_thing _ _ σ.1).1 ∧ MR (n + 1) (g_thing _ _ σ.1, σ.2) F' v' ∧ F' 5 = bmT (f_thing _ _ σ.1).2 (F2 5)) (fun K k => MX_thing n σ F2 v2 R2 _ _ (fun F' v' S' B' => k _ F' v' ⟨rfl, S', B'⟩)) (fun r3 F3 v3 b3 q => ?_)
  obtain ⟨er3, S3, B3⟩ := q
  refine xWP_go 60 [(18, [0, 1, 2, 3])] fun P hP => ?_
  refine hP _ _ _ _ _ ?_
  exact hk _ _ ⟨F', v', F3, v3, _, rfl, S', S3, bm_eq B' B3 EQ⟩
set_option maxRecDepth 100000 in
theorem lw_c1 (L : Nat) (hL : L ≤ 3072) (xs : Nat → Int32) (i n : Nat) (hi : i + 6 ≤ L) (hn : n < 1000) (F v F2 v2 : xS) (σ : xZ) (R : HR n σ F v) (R2 : MR n σ F2 v2) (EQ : ∀ j, j < 6 → F 69 j = F2 5 j) (b : xB) (hk : ∀ w b, lwI (n + 1) w → xWP (pg_Z_law L xs) xK1 18 (xl1 (nI i + 6)) [] w b) : xWP (pg_Z_law L xs) xK1 245 (xl1 (nI i)) [] (xfill F v 0 wH0 ++ xfill F2 v2 0 (wM0 70)) b := by
  refine xWP_go 60 [(256, [0, 1, 2, 3])] fun P hP => ?_
  refine ⟨rfl, lw_ix 1 (by omega) hL, ?_⟩
  refine ⟨rfl, lw_ix 2 (by omega) hL, ?_⟩
  refine hP _ _ _ _ _ ?_
  refine xwHii _ _ rfl (fun r F' v' => r = (f_ofThing _ _ σ.1).1 ∧ HR (n + 1) σ F' v' ∧ F' 69 = bmT (f_ofThing _ _ σ.1).2 (F 69)) (fun K k => HX_ofThing n σ F v R _ _ (fun F' v' S' B' => k _ F' v' ⟨rfl, S', B'⟩)) (fun r F' v' b' q => ?_)
  obtain ⟨er, S', B'⟩ := q
  refine xWP_go 60 [(271, [0, 1, 2, 3])] fun P hP => ?_
  refine ⟨rfl, lw_ix 1 (by omega) hL, ?_⟩
  refine ⟨rfl, lw_ix 2 (by omega) hL, ?_⟩
  refine hP _ _ _ _ _ ?_
  refine xwMii _ _ rfl (fun r F' v' => r = (f_ofThing _ _ σ.1).1 ∧ MR (n + 1) σ F' v' ∧ F' 5 = bmT (f_ofThing _ _ σ.1).2 (F2 5)) (fun K k => MX_ofThing n σ F2 v2 R2 _ _ (fun F' v' S' B' => k _ F' v' ⟨rfl, S', B'⟩)) (fun r3 F3 v3 b3 q => ?_)
  obtain ⟨er3, S3, B3⟩ := q
  refine xWP_go 60 [(18, [0, 1, 2, 3])] fun P hP => ?_
  refine hP _ _ _ _ _ ?_
  exact hk _ _ ⟨F', v', F3, v3, _, rfl, S', S3, bm_eq B' B3 EQ⟩
set_option maxRecDepth 100000 in
theorem lw_c2 (L : Nat) (hL : L ≤ 3072) (xs : Nat → Int32) (i n : Nat) (hi : i + 6 ≤ L) (hn : n < 1000) (F v F2 v2 : xS) (σ : xZ) (R : HR n σ F v) (R2 : MR n σ F2 v2) (EQ : ∀ j, j < 6 → F 69 j = F2 5 j) (b : xB) (hk : ∀ w b, lwI (n + 1) w → xWP (pg_Z_law L xs) xK1 18 (xl1 (nI i + 6)) [] w b) : xWP (pg_Z_law L xs) xK1 278 (xl1 (nI i)) [] (xfill F v 0 wH0 ++ xfill F2 v2 0 (wM0 70)) b := by
  refine xWP_go 60 [(294, [0, 1, 2, 3])] fun P hP => ?_
  refine ⟨rfl, lw_ix 1 (by omega) hL, ?_⟩
  refine ⟨rfl, lw_ix 2 (by omega) hL, ?_⟩
  refine ⟨rfl, lw_ix 3 (by omega) hL, ?_⟩
  refine hP _ _ _ _ _ ?_
  refine xwHiii _ _ _ rfl (fun r F' v' => r = (f_shift _ _ _ σ.1).1 ∧ HR (n + 1) (g_shift _ _ _ σ.1, σ.2) F' v' ∧ F' 69 = bmT (f_shift _ _ _ σ.1).2 (F 69)) (fun K k => HX_shift n σ F v R _ _ _ (fun F' v' S' B' => k _ F' v' ⟨rfl, S', B'⟩)) (fun r F' v' b' q => ?_)
  obtain ⟨er, S', B'⟩ := q
  refine xWP_go 60 [(314, [0, 1, 2, 3])] fun P hP => ?_
  refine ⟨rfl, lw_ix 1 (by omega) hL, ?_⟩
  refine ⟨rfl, lw_ix 2 (by omega) hL, ?_⟩
  refine ⟨rfl, lw_ix 3 (by omega) hL, ?_⟩
  refine hP _ _ _ _ _ ?_
  refine xwMiii _ _ _ rfl (fun r F' v' => r = (f_shift _ _ _ σ.1).1 ∧ MR (n + 1) (g_shift _ _ _ σ.1, σ.2) F' v' ∧ F' 5 = bmT (f_shift _ _ _ σ.1).2 (F2 5)) (fun K k => MX_shift n σ F2 v2 R2 _ _ _ (fun F' v' S' B' => k _ F' v' ⟨rfl, S', B'⟩)) (fun r3 F3 v3 b3 q => ?_)
  obtain ⟨er3, S3, B3⟩ := q
  refine xWP_go 60 [(18, [0, 1, 2, 3])] fun P hP => ?_
  refine hP _ _ _ _ _ ?_
  exact hk _ _ ⟨F', v', F3, v3, _, rfl, S', S3, bm_eq B' B3 EQ⟩
set_option maxRecDepth 100000 in
theorem lw_c3 (L : Nat) (hL : L ≤ 3072) (xs : Nat → Int32) (i n : Nat) (hi : i + 6 ≤ L) (hn : n < 1000) (F v F2 v2 : xS) (σ : xZ) (R : HR n σ F v) (R2 : MR n σ F2 v2) (EQ : ∀ j, j < 6 → F 69 j = F2 5 j) (b : xB) (hk : ∀ w b, lwI (n + 1) w → xWP (pg_Z_law L xs) xK1 18 (xl1 (nI i + 6)) [] w b) : xWP (pg_Z_law L xs) xK1 321 (xl1 (nI i)) [] (xfill F v 0 wH0 ++ xfill F2 v2 0 (wM0 70)) b := by
  refine xWP_go 60 [(332, [0, 1, 2, 3])] fun P hP => ?_
  refine ⟨rfl, lw_ix 1 (by omega) hL, ?_⟩
  refine ⟨rfl, lw_ix 2 (by omega) hL, ?_⟩
  refine hP _ _ _ _ _ ?_
  refine xwHii _ _ rfl (fun r F' v' => r = (f_child _ _ σ.1).1 ∧ HR (n + 1) (y_child _ _ σ) F' v' ∧ F' 69 = bmT (f_child _ _ σ.1).2 (F 69)) (fun K k => HX_child n σ F v R _ _ (fun F' v' S' B' => k _ F' v' ⟨rfl, S', B'⟩)) (fun r F' v' b' q => ?_)
  obtain ⟨er, S', B'⟩ := q
  refine xWP_go 60 [(347, [0, 1, 2, 3])] fun P hP => ?_
  refine ⟨rfl, lw_ix 1 (by omega) hL, ?_⟩
  refine ⟨rfl, lw_ix 2 (by omega) hL, ?_⟩
  refine hP _ _ _ _ _ ?_
  refine xwMii _ _ rfl (fun r F' v' => r = (f_child _ _ σ.1).1 ∧ MR (n + 1) (y_child _ _ σ) F' v' ∧ F' 5 = bmT (f_child _ _ σ.1).2 (F2 5)) (fun K k => MX_child n σ F2 v2 R2 _ _ (fun F' v' S' B' => k _ F' v' ⟨rfl, S', B'⟩)) (fun r3 F3 v3 b3 q => ?_)
  obtain ⟨er3, S3, B3⟩ := q
  refine xWP_go 60 [(18, [0, 1, 2, 3])] fun P hP => ?_
  refine hP _ _ _ _ _ ?_
  exact hk _ _ ⟨F', v', F3, v3, _, rfl, S', S3, bm_eq B' B3 EQ⟩
set_option maxRecDepth 100000 in
theorem lw_c4 (L : Nat) (hL : L ≤ 3072) (xs : Nat → Int32) (i n : Nat) (hi : i + 6 ≤ L) (hn : n < 1000) (F v F2 v2 : xS) (σ : xZ) (R : HR n σ F v) (R2 : MR n σ F2 v2) (EQ : ∀ j, j < 6 → F 69 j = F2 5 j) (b : xB) (hk : ∀ w b, lwI (n + 1) w → xWP (pg_Z_law L xs) xK1 18 (xl1 (nI i + 6)) [] w b) : xWP (pg_Z_law L xs) xK1 354 (xl1 (nI i)) [] (xfill F v 0 wH0 ++ xfill F2 v2 0 (wM0 70)) b := by
  refine xWP_go 60 [(365, [0, 1, 2, 3])] fun P hP => ?_
  refine ⟨rfl, lw_ix 1 (by omega) hL, ?_⟩
  refine ⟨rfl, lw_ix 2 (by omega) hL, ?_⟩
  refine hP _ _ _ _ _ ?_
  refine xwHii _ _ rfl (fun r F' v' => r = (z_ofChild _ _ σ).1 ∧ HR (n + 1) σ F' v' ∧ F' 69 = bmT (z_ofChild _ _ σ).2 (F 69)) (fun K k => HX_ofChild n σ F v R _ _ (fun F' v' S' B' => k _ F' v' ⟨rfl, S', B'⟩)) (fun r F' v' b' q => ?_)
  obtain ⟨er, S', B'⟩ := q
  refine xWP_go 60 [(380, [0, 1, 2, 3])] fun P hP => ?_
  refine ⟨rfl, lw_ix 1 (by omega) hL, ?_⟩
  refine ⟨rfl, lw_ix 2 (by omega) hL, ?_⟩
  refine hP _ _ _ _ _ ?_
  refine xwMii _ _ rfl (fun r F' v' => r = (z_ofChild _ _ σ).1 ∧ MR (n + 1) σ F' v' ∧ F' 5 = bmT (z_ofChild _ _ σ).2 (F2 5)) (fun K k => MX_ofChild n σ F2 v2 R2 _ _ (fun F' v' S' B' => k _ F' v' ⟨rfl, S', B'⟩)) (fun r3 F3 v3 b3 q => ?_)
  obtain ⟨er3, S3, B3⟩ := q
  refine xWP_go 60 [(18, [0, 1, 2, 3])] fun P hP => ?_
  refine hP _ _ _ _ _ ?_
  exact hk _ _ ⟨F', v', F3, v3, _, rfl, S', S3, bm_eq B' B3 EQ⟩
set_option maxRecDepth 100000 in
theorem lw_c5 (L : Nat) (hL : L ≤ 3072) (xs : Nat → Int32) (i n : Nat) (hi : i + 6 ≤ L) (hn : n < 1000) (F v F2 v2 : xS) (σ : xZ) (R : HR n σ F v) (R2 : MR n σ F2 v2) (EQ : ∀ j, j < 6 → F 69 j = F2 5 j) (b : xB) (hk : ∀ w b, lwI (n + 1) w → xWP (pg_Z_law L xs) xK1 18 (xl1 (nI i + 6)) [] w b) : xWP (pg_Z_law L xs) xK1 387 (xl1 (nI i)) [] (xfill F v 0 wH0 ++ xfill F2 v2 0 (wM0 70)) b := by
  refine xWP_go 60 [(403, [0, 1, 2, 3])] fun P hP => ?_
  refine ⟨rfl, lw_ix 1 (by omega) hL, ?_⟩
  refine ⟨rfl, lw_ix 2 (by omega) hL, ?_⟩
  refine ⟨rfl, lw_ix 3 (by omega) hL, ?_⟩
  refine hP _ _ _ _ _ ?_
  refine xwHiii _ _ _ rfl (fun r F' v' => r = (z_change _ _ _ σ).1 ∧ HR (n + 1) (y_change _ _ _ σ) F' v' ∧ F' 69 = bmT (z_change _ _ _ σ).2 (F 69)) (fun K k => HX_change n σ F v R _ _ _ (fun F' v' S' B' => k _ F' v' ⟨rfl, S', B'⟩)) (fun r F' v' b' q => ?_)
  obtain ⟨er, S', B'⟩ := q
  refine xWP_go 60 [(423, [0, 1, 2, 3])] fun P hP => ?_
  refine ⟨rfl, lw_ix 1 (by omega) hL, ?_⟩
  refine ⟨rfl, lw_ix 2 (by omega) hL, ?_⟩
  refine ⟨rfl, lw_ix 3 (by omega) hL, ?_⟩
  refine hP _ _ _ _ _ ?_
  refine xwMiii _ _ _ rfl (fun r F' v' => r = (z_change _ _ _ σ).1 ∧ MR (n + 1) (y_change _ _ _ σ) F' v' ∧ F' 5 = bmT (z_change _ _ _ σ).2 (F2 5)) (fun K k => MX_change n σ F2 v2 R2 _ _ _ (fun F' v' S' B' => k _ F' v' ⟨rfl, S', B'⟩)) (fun r3 F3 v3 b3 q => ?_)
  obtain ⟨er3, S3, B3⟩ := q
  refine xWP_go 60 [(18, [0, 1, 2, 3])] fun P hP => ?_
  refine hP _ _ _ _ _ ?_
  exact hk _ _ ⟨F', v', F3, v3, _, rfl, S', S3, bm_eq B' B3 EQ⟩
set_option maxRecDepth 100000 in
theorem lw_c6 (L : Nat) (hL : L ≤ 3072) (xs : Nat → Int32) (i n : Nat) (hi : i + 6 ≤ L) (hn : n < 1000) (F v F2 v2 : xS) (σ : xZ) (R : HR n σ F v) (R2 : MR n σ F2 v2) (EQ : ∀ j, j < 6 → F 69 j = F2 5 j) (b : xB) (hk : ∀ w b, lwI (n + 1) w → xWP (pg_Z_law L xs) xK1 18 (xl1 (nI i + 6)) [] w b) : xWP (pg_Z_law L xs) xK1 430 (xl1 (nI i)) [] (xfill F v 0 wH0 ++ xfill F2 v2 0 (wM0 70)) b := by
  refine xWP_go 60 [(436, [0, 1, 2, 3])] fun P hP => ?_
  refine ⟨rfl, lw_ix 1 (by omega) hL, ?_⟩
  refine hP _ _ _ _ _ ?_
  refine xwHi _ rfl (fun r F' v' => r = (z_it _ σ).1 ∧ HR (n + 1) (y_it _ σ) F' v' ∧ F' 69 = bmT (z_it _ σ).2 (F 69)) (fun K k => HX_it n σ F v R _ (fun F' v' S' B' => k _ F' v' ⟨rfl, S', B'⟩)) (fun r F' v' b' q => ?_)
  obtain ⟨er, S', B'⟩ := q
  refine xWP_go 60 [(446, [0, 1, 2, 3])] fun P hP => ?_
  refine ⟨rfl, lw_ix 1 (by omega) hL, ?_⟩
  refine hP _ _ _ _ _ ?_
  refine xwMi _ rfl (fun r F' v' => r = (z_it _ σ).1 ∧ MR (n + 1) (y_it _ σ) F' v' ∧ F' 5 = bmT (z_it _ σ).2 (F2 5)) (fun K k => MX_it n σ F2 v2 R2 _ (fun F' v' S' B' => k _ F' v' ⟨rfl, S', B'⟩)) (fun r3 F3 v3 b3 q => ?_)
  obtain ⟨er3, S3, B3⟩ := q
  refine xWP_go 60 [(18, [0, 1, 2, 3])] fun P hP => ?_
  refine hP _ _ _ _ _ ?_
  exact hk _ _ ⟨F', v', F3, v3, _, rfl, S', S3, bm_eq B' B3 EQ⟩
set_option maxRecDepth 100000 in
theorem lw_c7 (L : Nat) (hL : L ≤ 3072) (xs : Nat → Int32) (i n : Nat) (hi : i + 6 ≤ L) (hn : n < 1000) (F v F2 v2 : xS) (σ : xZ) (R : HR n σ F v) (R2 : MR n σ F2 v2) (EQ : ∀ j, j < 6 → F 69 j = F2 5 j) (b : xB) (hk : ∀ w b, lwI (n + 1) w → xWP (pg_Z_law L xs) xK1 18 (xl1 (nI i + 6)) [] w b) : xWP (pg_Z_law L xs) xK1 453 (xl1 (nI i)) [] (xfill F v 0 wH0 ++ xfill F2 v2 0 (wM0 70)) b := by
  refine xWP_go 60 [(464, [0, 1, 2, 3])] fun P hP => ?_
  refine ⟨rfl, lw_ix 1 (by omega) hL, ?_⟩
  refine ⟨rfl, lw_ix 2 (by omega) hL, ?_⟩
  refine hP _ _ _ _ _ ?_
  refine xwHii _ _ rfl (fun r F' v' => r = (f_become _ _ σ.1).1 ∧ HR (n + 1) (g_become _ _ σ.1, σ.2) F' v' ∧ F' 69 = bmT (f_become _ _ σ.1).2 (F 69)) (fun K k => HX_become n σ F v R _ _ (fun F' v' S' B' => k _ F' v' ⟨rfl, S', B'⟩)) (fun r F' v' b' q => ?_)
  obtain ⟨er, S', B'⟩ := q
  refine xWP_go 60 [(479, [0, 1, 2, 3])] fun P hP => ?_
  refine ⟨rfl, lw_ix 1 (by omega) hL, ?_⟩
  refine ⟨rfl, lw_ix 2 (by omega) hL, ?_⟩
  refine hP _ _ _ _ _ ?_
  refine xwMii _ _ rfl (fun r F' v' => r = (f_become _ _ σ.1).1 ∧ MR (n + 1) (g_become _ _ σ.1, σ.2) F' v' ∧ F' 5 = bmT (f_become _ _ σ.1).2 (F2 5)) (fun K k => MX_become n σ F2 v2 R2 _ _ (fun F' v' S' B' => k _ F' v' ⟨rfl, S', B'⟩)) (fun r3 F3 v3 b3 q => ?_)
  obtain ⟨er3, S3, B3⟩ := q
  refine xWP_go 60 [(18, [0, 1, 2, 3])] fun P hP => ?_
  refine hP _ _ _ _ _ ?_
  exact hk _ _ ⟨F', v', F3, v3, _, rfl, S', S3, bm_eq B' B3 EQ⟩
set_option maxRecDepth 100000 in
theorem lw_c8 (L : Nat) (hL : L ≤ 3072) (xs : Nat → Int32) (i n : Nat) (hi : i + 6 ≤ L) (hn : n < 1000) (F v F2 v2 : xS) (σ : xZ) (R : HR n σ F v) (R2 : MR n σ F2 v2) (EQ : ∀ j, j < 6 → F 69 j = F2 5 j) (b : xB) (hk : ∀ w b, lwI (n + 1) w → xWP (pg_Z_law L xs) xK1 18 (xl1 (nI i + 6)) [] w b) : xWP (pg_Z_law L xs) xK1 486 (xl1 (nI i)) [] (xfill F v 0 wH0 ++ xfill F2 v2 0 (wM0 70)) b := by
  refine xWP_go 60 [(497, [0, 1, 2, 3])] fun P hP => ?_
  refine ⟨rfl, lw_ix 1 (by omega) hL, ?_⟩
  refine ⟨rfl, lw_ix 2 (by omega) hL, ?_⟩
  refine hP _ _ _ _ _ ?_
  refine xwHii _ _ rfl (fun r F' v' => r = (f_as _ _ σ.1).1 ∧ HR (n + 1) σ F' v' ∧ F' 69 = bmT (f_as _ _ σ.1).2 (F 69)) (fun K k => HX_as n σ F v R _ _ (fun F' v' S' B' => k _ F' v' ⟨rfl, S', B'⟩)) (fun r F' v' b' q => ?_)
  obtain ⟨er, S', B'⟩ := q
  refine xWP_go 60 [(512, [0, 1, 2, 3])] fun P hP => ?_
  refine ⟨rfl, lw_ix 1 (by omega) hL, ?_⟩
  refine ⟨rfl, lw_ix 2 (by omega) hL, ?_⟩
  refine hP _ _ _ _ _ ?_
  refine xwMii _ _ rfl (fun r F' v' => r = (f_as _ _ σ.1).1 ∧ MR (n + 1) σ F' v' ∧ F' 5 = bmT (f_as _ _ σ.1).2 (F2 5)) (fun K k => MX_as n σ F2 v2 R2 _ _ (fun F' v' S' B' => k _ F' v' ⟨rfl, S', B'⟩)) (fun r3 F3 v3 b3 q => ?_)
  obtain ⟨er3, S3, B3⟩ := q
  refine xWP_go 60 [(18, [0, 1, 2, 3])] fun P hP => ?_
  refine hP _ _ _ _ _ ?_
  exact hk _ _ ⟨F', v', F3, v3, _, rfl, S', S3, bm_eq B' B3 EQ⟩
set_option maxRecDepth 100000 in
theorem lw_c9 (L : Nat) (hL : L ≤ 3072) (xs : Nat → Int32) (i n : Nat) (hi : i + 6 ≤ L) (hn : n < 1000) (F v F2 v2 : xS) (σ : xZ) (R : HR n σ F v) (R2 : MR n σ F2 v2) (EQ : ∀ j, j < 6 → F 69 j = F2 5 j) (b : xB) (hk : ∀ w b, lwI (n + 1) w → xWP (pg_Z_law L xs) xK1 18 (xl1 (nI i + 6)) [] w b) : xWP (pg_Z_law L xs) xK1 519 (xl1 (nI i)) [] (xfill F v 0 wH0 ++ xfill F2 v2 0 (wM0 70)) b := by
  refine xWP_go 60 [(545, [0, 1, 2, 3])] fun P hP => ?_
  refine ⟨rfl, lw_ix 1 (by omega) hL, ?_⟩
  refine ⟨rfl, lw_ix 2 (by omega) hL, ?_⟩
  refine ⟨rfl, lw_ix 3 (by omega) hL, ?_⟩
  refine hP _ _ _ _ _ ?_
  refine xwHli _ _ rfl (fun r F' v' => r = (f_feed _ _ σ.1).1 ∧ HR (n + 1) (g_feed _ _ σ.1, σ.2) F' v' ∧ F' 69 = bmT (f_feed _ _ σ.1).2 (F 69)) (fun K k => HX_feed n σ F v R _ _ (fun F' v' S' B' => k _ F' v' ⟨rfl, S', B'⟩)) (fun r F' v' b' q => ?_)
  obtain ⟨er, S', B'⟩ := q
  refine xWP_go 60 [(575, [0, 1, 2, 3])] fun P hP => ?_
  refine ⟨rfl, lw_ix 1 (by omega) hL, ?_⟩
  refine ⟨rfl, lw_ix 2 (by omega) hL, ?_⟩
  refine ⟨rfl, lw_ix 3 (by omega) hL, ?_⟩
  refine hP _ _ _ _ _ ?_
  refine xwMli _ _ rfl (fun r F' v' => r = (f_feed _ _ σ.1).1 ∧ MR (n + 1) (g_feed _ _ σ.1, σ.2) F' v' ∧ F' 5 = bmT (f_feed _ _ σ.1).2 (F2 5)) (fun K k => MX_feed n σ F2 v2 R2 _ _ (fun F' v' S' B' => k _ F' v' ⟨rfl, S', B'⟩)) (fun r3 F3 v3 b3 q => ?_)
  obtain ⟨er3, S3, B3⟩ := q
  refine xWP_go 60 [(18, [0, 1, 2, 3])] fun P hP => ?_
  refine hP _ _ _ _ _ ?_
  exact hk _ _ ⟨F', v', F3, v3, _, rfl, S', S3, bm_eq B' B3 EQ⟩
set_option maxRecDepth 100000 in
theorem lw_c10 (L : Nat) (hL : L ≤ 3072) (xs : Nat → Int32) (i n : Nat) (hi : i + 6 ≤ L) (hn : n < 1000) (F v F2 v2 : xS) (σ : xZ) (R : HR n σ F v) (R2 : MR n σ F2 v2) (EQ : ∀ j, j < 6 → F 69 j = F2 5 j) (b : xB) (hk : ∀ w b, lwI (n + 1) w → xWP (pg_Z_law L xs) xK1 18 (xl1 (nI i + 6)) [] w b) : xWP (pg_Z_law L xs) xK1 582 (xl1 (nI i)) [] (xfill F v 0 wH0 ++ xfill F2 v2 0 (wM0 70)) b := by
  refine xWP_go 60 [(588, [0, 1, 2, 3])] fun P hP => ?_
  refine ⟨rfl, lw_ix 1 (by omega) hL, ?_⟩
  refine hP _ _ _ _ _ ?_
  refine xwHi _ rfl (fun r F' v' => r = (z_text _ σ).1 ∧ HR (n + 1) (y_text _ σ) F' v' ∧ F' 69 = bmT (z_text _ σ).2 (F 69)) (fun K k => HX_text n σ F v R _ (fun F' v' S' B' => k _ F' v' ⟨rfl, S', B'⟩)) (fun r F' v' b' q => ?_)
  obtain ⟨er, S', B'⟩ := q
  refine xWP_go 60 [(598, [0, 1, 2, 3])] fun P hP => ?_
  refine ⟨rfl, lw_ix 1 (by omega) hL, ?_⟩
  refine hP _ _ _ _ _ ?_
  refine xwMi _ rfl (fun r F' v' => r = (z_text _ σ).1 ∧ MR (n + 1) (y_text _ σ) F' v' ∧ F' 5 = bmT (z_text _ σ).2 (F2 5)) (fun K k => MX_text n σ F2 v2 R2 _ (fun F' v' S' B' => k _ F' v' ⟨rfl, S', B'⟩)) (fun r3 F3 v3 b3 q => ?_)
  obtain ⟨er3, S3, B3⟩ := q
  refine xWP_go 60 [(18, [0, 1, 2, 3])] fun P hP => ?_
  refine hP _ _ _ _ _ ?_
  exact hk _ _ ⟨F', v', F3, v3, _, rfl, S', S3, bm_eq B' B3 EQ⟩
set_option maxRecDepth 100000 in
theorem lw_c11 (L : Nat) (hL : L ≤ 3072) (xs : Nat → Int32) (i n : Nat) (hi : i + 6 ≤ L) (hn : n < 1000) (F v F2 v2 : xS) (σ : xZ) (R : HR n σ F v) (R2 : MR n σ F2 v2) (EQ : ∀ j, j < 6 → F 69 j = F2 5 j) (b : xB) (hk : ∀ w b, lwI (n + 1) w → xWP (pg_Z_law L xs) xK1 18 (xl1 (nI i + 6)) [] w b) : xWP (pg_Z_law L xs) xK1 605 (xl1 (nI i)) [] (xfill F v 0 wH0 ++ xfill F2 v2 0 (wM0 70)) b := by
  refine xWP_go 60 [(626, [0, 1, 2, 3])] fun P hP => ?_
  refine ⟨rfl, lw_ix 1 (by omega) hL, ?_⟩
  refine ⟨rfl, lw_ix 2 (by omega) hL, ?_⟩
  refine ⟨rfl, lw_ix 3 (by omega) hL, ?_⟩
  refine ⟨rfl, lw_ix 4 (by omega) hL, ?_⟩
  refine hP _ _ _ _ _ ?_
  refine xwHiiii _ _ _ _ rfl (fun r F' v' => r = (z_law _ _ _ _ σ).1 ∧ HR (n + 1) σ F' v' ∧ F' 69 = bmT (z_law _ _ _ _ σ).2 (F 69)) (fun K k => HX_law n σ F v R _ _ _ _ (fun F' v' S' B' => k _ F' v' ⟨rfl, S', B'⟩)) (fun r F' v' b' q => ?_)
  obtain ⟨er, S', B'⟩ := q
  refine xWP_go 60 [(651, [0, 1, 2, 3])] fun P hP => ?_
  refine ⟨rfl, lw_ix 1 (by omega) hL, ?_⟩
  refine ⟨rfl, lw_ix 2 (by omega) hL, ?_⟩
  refine ⟨rfl, lw_ix 3 (by omega) hL, ?_⟩
  refine ⟨rfl, lw_ix 4 (by omega) hL, ?_⟩
  refine hP _ _ _ _ _ ?_
  refine xwMiiii _ _ _ _ rfl (fun r F' v' => r = (z_law _ _ _ _ σ).1 ∧ MR (n + 1) σ F' v' ∧ F' 5 = bmT (z_law _ _ _ _ σ).2 (F2 5)) (fun K k => MX_law n σ F2 v2 R2 _ _ _ _ (fun F' v' S' B' => k _ F' v' ⟨rfl, S', B'⟩)) (fun r3 F3 v3 b3 q => ?_)
  obtain ⟨er3, S3, B3⟩ := q
  refine xWP_go 60 [(18, [0, 1, 2, 3])] fun P hP => ?_
  refine hP _ _ _ _ _ ?_
  exact hk _ _ ⟨F', v', F3, v3, _, rfl, S', S3, bm_eq B' B3 EQ⟩
set_option maxRecDepth 100000 in
theorem lw_c12 (L : Nat) (hL : L ≤ 3072) (xs : Nat → Int32) (i n : Nat) (hi : i + 6 ≤ L) (hn : n < 1000) (F v F2 v2 : xS) (σ : xZ) (R : HR n σ F v) (R2 : MR n σ F2 v2) (EQ : ∀ j, j < 6 → F 69 j = F2 5 j) (b : xB) (hk : ∀ w b, lwI (n + 1) w → xWP (pg_Z_law L xs) xK1 18 (xl1 (nI i + 6)) [] w b) : xWP (pg_Z_law L xs) xK1 658 (xl1 (nI i)) [] (xfill F v 0 wH0 ++ xfill F2 v2 0 (wM0 70)) b := by
  refine xWP_go 60 [(669, [0, 1, 2, 3])] fun P hP => ?_
  refine ⟨rfl, lw_ix 1 (by omega) hL, ?_⟩
  refine ⟨rfl, lw_ix 2 (by omega) hL, ?_⟩
  refine hP _ _ _ _ _ ?_
  refine xwHii _ _ rfl (fun r F' v' => r = (z_call _ _ σ).1 ∧ HR (n + 1) (y_call _ _ σ) F' v' ∧ F' 69 = bmT (z_call _ _ σ).2 (F 69)) (fun K k => HX_call n σ F v R _ _ (fun F' v' S' B' => k _ F' v' ⟨rfl, S', B'⟩)) (fun r F' v' b' q => ?_)
  obtain ⟨er, S', B'⟩ := q
  refine xWP_go 60 [(684, [0, 1, 2, 3])] fun P hP => ?_
  refine ⟨rfl, lw_ix 1 (by omega) hL, ?_⟩
  refine ⟨rfl, lw_ix 2 (by omega) hL, ?_⟩
  refine hP _ _ _ _ _ ?_
  refine xwMii _ _ rfl (fun r F' v' => r = (z_call _ _ σ).1 ∧ MR (n + 1) (y_call _ _ σ) F' v' ∧ F' 5 = bmT (z_call _ _ σ).2 (F2 5)) (fun K k => MX_call n σ F2 v2 R2 _ _ (fun F' v' S' B' => k _ F' v' ⟨rfl, S', B'⟩)) (fun r3 F3 v3 b3 q => ?_)
  obtain ⟨er3, S3, B3⟩ := q
  refine xWP_go 60 [(18, [0, 1, 2, 3])] fun P hP => ?_
  refine hP _ _ _ _ _ ?_
  exact hk _ _ ⟨F', v', F3, v3, _, rfl, S', S3, bm_eq B' B3 EQ⟩
set_option maxRecDepth 100000 in
theorem lw_c13 (L : Nat) (hL : L ≤ 3072) (xs : Nat → Int32) (i n : Nat) (hi : i + 6 ≤ L) (hn : n < 1000) (F v F2 v2 : xS) (σ : xZ) (R : HR n σ F v) (R2 : MR n σ F2 v2) (EQ : ∀ j, j < 6 → F 69 j = F2 5 j) (b : xB) (hk : ∀ w b, lwI (n + 1) w → xWP (pg_Z_law L xs) xK1 18 (xl1 (nI i + 6)) [] w b) : xWP (pg_Z_law L xs) xK1 691 (xl1 (nI i)) [] (xfill F v 0 wH0 ++ xfill F2 v2 0 (wM0 70)) b := by
  refine xWP_go 60 [(697, [0, 1, 2, 3])] fun P hP => ?_
  refine ⟨rfl, lw_ix 1 (by omega) hL, ?_⟩
  refine hP _ _ _ _ _ ?_
  refine xwHi _ rfl (fun r F' v' => r = (z_loose _ σ).1 ∧ HR (n + 1) (y_loose _ σ) F' v' ∧ F' 69 = bmT (z_loose _ σ).2 (F 69)) (fun K k => HX_loose n σ F v R _ (fun F' v' S' B' => k _ F' v' ⟨rfl, S', B'⟩)) (fun r F' v' b' q => ?_)
  obtain ⟨er, S', B'⟩ := q
  refine xWP_go 60 [(707, [0, 1, 2, 3])] fun P hP => ?_
  refine ⟨rfl, lw_ix 1 (by omega) hL, ?_⟩
  refine hP _ _ _ _ _ ?_
  refine xwMi _ rfl (fun r F' v' => r = (z_loose _ σ).1 ∧ MR (n + 1) (y_loose _ σ) F' v' ∧ F' 5 = bmT (z_loose _ σ).2 (F2 5)) (fun K k => MX_loose n σ F2 v2 R2 _ (fun F' v' S' B' => k _ F' v' ⟨rfl, S', B'⟩)) (fun r3 F3 v3 b3 q => ?_)
  obtain ⟨er3, S3, B3⟩ := q
  refine xWP_go 60 [(18, [0, 1, 2, 3])] fun P hP => ?_
  refine hP _ _ _ _ _ ?_
  exact hk _ _ ⟨F', v', F3, v3, _, rfl, S', S3, bm_eq B' B3 EQ⟩
set_option maxRecDepth 100000 in
theorem lw_c14 (L : Nat) (hL : L ≤ 3072) (xs : Nat → Int32) (i n : Nat) (hi : i + 6 ≤ L) (hn : n < 1000) (F v F2 v2 : xS) (σ : xZ) (R : HR n σ F v) (R2 : MR n σ F2 v2) (EQ : ∀ j, j < 6 → F 69 j = F2 5 j) (b : xB) (hk : ∀ w b, lwI (n + 1) w → xWP (pg_Z_law L xs) xK1 18 (xl1 (nI i + 6)) [] w b) : xWP (pg_Z_law L xs) xK1 714 (xl1 (nI i)) [] (xfill F v 0 wH0 ++ xfill F2 v2 0 (wM0 70)) b := by
  refine xWP_go 60 [(725, [0, 1, 2, 3])] fun P hP => ?_
  refine ⟨rfl, lw_ix 1 (by omega) hL, ?_⟩
  refine ⟨rfl, lw_ix 2 (by omega) hL, ?_⟩
  refine hP _ _ _ _ _ ?_
  refine xwHii _ _ rfl (fun r F' v' => r = (z_hadBy _ _ σ).1 ∧ HR (n + 1) σ F' v' ∧ F' 69 = bmT (z_hadBy _ _ σ).2 (F 69)) (fun K k => HX_hadBy n σ F v R _ _ (fun F' v' S' B' => k _ F' v' ⟨rfl, S', B'⟩)) (fun r F' v' b' q => ?_)
  obtain ⟨er, S', B'⟩ := q
  refine xWP_go 60 [(740, [0, 1, 2, 3])] fun P hP => ?_
  refine ⟨rfl, lw_ix 1 (by omega) hL, ?_⟩
  refine ⟨rfl, lw_ix 2 (by omega) hL, ?_⟩
  refine hP _ _ _ _ _ ?_
  refine xwMii _ _ rfl (fun r F' v' => r = (z_hadBy _ _ σ).1 ∧ MR (n + 1) σ F' v' ∧ F' 5 = bmT (z_hadBy _ _ σ).2 (F2 5)) (fun K k => MX_hadBy n σ F2 v2 R2 _ _ (fun F' v' S' B' => k _ F' v' ⟨rfl, S', B'⟩)) (fun r3 F3 v3 b3 q => ?_)
  obtain ⟨er3, S3, B3⟩ := q
  refine xWP_go 60 [(18, [0, 1, 2, 3])] fun P hP => ?_
  refine hP _ _ _ _ _ ?_
  exact hk _ _ ⟨F', v', F3, v3, _, rfl, S', S3, bm_eq B' B3 EQ⟩
set_option maxRecDepth 100000 in
theorem lw_c15 (L : Nat) (hL : L ≤ 3072) (xs : Nat → Int32) (i n : Nat) (hi : i + 6 ≤ L) (hn : n < 1000) (F v F2 v2 : xS) (σ : xZ) (R : HR n σ F v) (R2 : MR n σ F2 v2) (EQ : ∀ j, j < 6 → F 69 j = F2 5 j) (b : xB) (hk : ∀ w b, lwI (n + 1) w → xWP (pg_Z_law L xs) xK1 18 (xl1 (nI i + 6)) [] w b) : xWP (pg_Z_law L xs) xK1 747 (xl1 (nI i)) [] (xfill F v 0 wH0 ++ xfill F2 v2 0 (wM0 70)) b := by
  refine xWP_go 60 [(763, [0, 1, 2, 3])] fun P hP => ?_
  refine ⟨rfl, lw_ix 1 (by omega) hL, ?_⟩
  refine ⟨rfl, lw_ix 2 (by omega) hL, ?_⟩
  refine ⟨rfl, lw_ix 3 (by omega) hL, ?_⟩
  refine hP _ _ _ _ _ ?_
  refine xwHiii _ _ _ rfl (fun r F' v' => r = (z_runsTo _ _ _ σ).1 ∧ HR (n + 1) σ F' v' ∧ F' 69 = bmT (z_runsTo _ _ _ σ).2 (F 69)) (fun K k => HX_runsTo n σ F v R _ _ _ (fun F' v' S' B' => k _ F' v' ⟨rfl, S', B'⟩)) (fun r F' v' b' q => ?_)
  obtain ⟨er, S', B'⟩ := q
  refine xWP_go 60 [(783, [0, 1, 2, 3])] fun P hP => ?_
  refine ⟨rfl, lw_ix 1 (by omega) hL, ?_⟩
  refine ⟨rfl, lw_ix 2 (by omega) hL, ?_⟩
  refine ⟨rfl, lw_ix 3 (by omega) hL, ?_⟩
  refine hP _ _ _ _ _ ?_
  refine xwMiii _ _ _ rfl (fun r F' v' => r = (z_runsTo _ _ _ σ).1 ∧ MR (n + 1) σ F' v' ∧ F' 5 = bmT (z_runsTo _ _ _ σ).2 (F2 5)) (fun K k => MX_runsTo n σ F2 v2 R2 _ _ _ (fun F' v' S' B' => k _ F' v' ⟨rfl, S', B'⟩)) (fun r3 F3 v3 b3 q => ?_)
  obtain ⟨er3, S3, B3⟩ := q
  refine xWP_go 60 [(18, [0, 1, 2, 3])] fun P hP => ?_
  refine hP _ _ _ _ _ ?_
  exact hk _ _ ⟨F', v', F3, v3, _, rfl, S', S3, bm_eq B' B3 EQ⟩
set_option maxRecDepth 100000 in
theorem lw_c16 (L : Nat) (hL : L ≤ 3072) (xs : Nat → Int32) (i n : Nat) (hi : i + 6 ≤ L) (hn : n < 1000) (F v F2 v2 : xS) (σ : xZ) (R : HR n σ F v) (R2 : MR n σ F2 v2) (EQ : ∀ j, j < 6 → F 69 j = F2 5 j) (b : xB) (hk : ∀ w b, lwI (n + 1) w → xWP (pg_Z_law L xs) xK1 18 (xl1 (nI i + 6)) [] w b) : xWP (pg_Z_law L xs) xK1 790 (xl1 (nI i)) [] (xfill F v 0 wH0 ++ xfill F2 v2 0 (wM0 70)) b := by
  refine xWP_go 60 [(801, [0, 1, 2, 3])] fun P hP => ?_
  refine ⟨rfl, lw_ix 1 (by omega) hL, ?_⟩
  refine ⟨rfl, lw_ix 2 (by omega) hL, ?_⟩
  refine hP _ _ _ _ _ ?_
  refine xwHii _ _ rfl (fun r F' v' => r = (z_mark 0 _ _ σ).1 ∧ HR (n + 1) σ F' v' ∧ F' 69 = bmT (z_mark 0 _ _ σ).2 (F 69)) (fun K k => HX_worst n σ F v R _ _ (fun F' v' S' B' => k _ F' v' ⟨rfl, S', B'⟩)) (fun r F' v' b' q => ?_)
  obtain ⟨er, S', B'⟩ := q
  refine xWP_go 60 [(816, [0, 1, 2, 3])] fun P hP => ?_
  refine ⟨rfl, lw_ix 1 (by omega) hL, ?_⟩
  refine ⟨rfl, lw_ix 2 (by omega) hL, ?_⟩
  refine hP _ _ _ _ _ ?_
  refine xwMii _ _ rfl (fun r F' v' => r = (z_mark 0 _ _ σ).1 ∧ MR (n + 1) σ F' v' ∧ F' 5 = bmT (z_mark 0 _ _ σ).2 (F2 5)) (fun K k => MX_worst n σ F2 v2 R2 _ _ (fun F' v' S' B' => k _ F' v' ⟨rfl, S', B'⟩)) (fun r3 F3 v3 b3 q => ?_)
  obtain ⟨er3, S3, B3⟩ := q
  refine xWP_go 60 [(18, [0, 1, 2, 3])] fun P hP => ?_
  refine hP _ _ _ _ _ ?_
  exact hk _ _ ⟨F', v', F3, v3, _, rfl, S', S3, bm_eq B' B3 EQ⟩
set_option maxRecDepth 100000 in
theorem lw_c17 (L : Nat) (hL : L ≤ 3072) (xs : Nat → Int32) (i n : Nat) (hi : i + 6 ≤ L) (hn : n < 1000) (F v F2 v2 : xS) (σ : xZ) (R : HR n σ F v) (R2 : MR n σ F2 v2) (EQ : ∀ j, j < 6 → F 69 j = F2 5 j) (b : xB) (hk : ∀ w b, lwI (n + 1) w → xWP (pg_Z_law L xs) xK1 18 (xl1 (nI i + 6)) [] w b) : xWP (pg_Z_law L xs) xK1 823 (xl1 (nI i)) [] (xfill F v 0 wH0 ++ xfill F2 v2 0 (wM0 70)) b := by
  refine xWP_go 60 [(834, [0, 1, 2, 3])] fun P hP => ?_
  refine ⟨rfl, lw_ix 1 (by omega) hL, ?_⟩
  refine ⟨rfl, lw_ix 2 (by omega) hL, ?_⟩
  refine hP _ _ _ _ _ ?_
  refine xwHii _ _ rfl (fun r F' v' => r = (z_mark 1 _ _ σ).1 ∧ HR (n + 1) σ F' v' ∧ F' 69 = bmT (z_mark 1 _ _ σ).2 (F 69)) (fun K k => HX_best n σ F v R _ _ (fun F' v' S' B' => k _ F' v' ⟨rfl, S', B'⟩)) (fun r F' v' b' q => ?_)
  obtain ⟨er, S', B'⟩ := q
  refine xWP_go 60 [(849, [0, 1, 2, 3])] fun P hP => ?_
  refine ⟨rfl, lw_ix 1 (by omega) hL, ?_⟩
  refine ⟨rfl, lw_ix 2 (by omega) hL, ?_⟩
  refine hP _ _ _ _ _ ?_
  refine xwMii _ _ rfl (fun r F' v' => r = (z_mark 1 _ _ σ).1 ∧ MR (n + 1) σ F' v' ∧ F' 5 = bmT (z_mark 1 _ _ σ).2 (F2 5)) (fun K k => MX_best n σ F2 v2 R2 _ _ (fun F' v' S' B' => k _ F' v' ⟨rfl, S', B'⟩)) (fun r3 F3 v3 b3 q => ?_)
  obtain ⟨er3, S3, B3⟩ := q
  refine xWP_go 60 [(18, [0, 1, 2, 3])] fun P hP => ?_
  refine hP _ _ _ _ _ ?_
  exact hk _ _ ⟨F', v', F3, v3, _, rfl, S', S3, bm_eq B' B3 EQ⟩
set_option maxRecDepth 100000 in
theorem lw_c18 (L : Nat) (hL : L ≤ 3072) (xs : Nat → Int32) (i n : Nat) (hi : i + 6 ≤ L) (hn : n < 1000) (F v F2 v2 : xS) (σ : xZ) (R : HR n σ F v) (R2 : MR n σ F2 v2) (EQ : ∀ j, j < 6 → F 69 j = F2 5 j) (b : xB) (hk : ∀ w b, lwI (n + 1) w → xWP (pg_Z_law L xs) xK1 18 (xl1 (nI i + 6)) [] w b) : xWP (pg_Z_law L xs) xK1 856 (xl1 (nI i)) [] (xfill F v 0 wH0 ++ xfill F2 v2 0 (wM0 70)) b := by
  refine xWP_go 60 [(872, [0, 1, 2, 3])] fun P hP => ?_
  refine ⟨rfl, lw_ix 1 (by omega) hL, ?_⟩
  refine ⟨rfl, lw_ix 2 (by omega) hL, ?_⟩
  refine ⟨rfl, lw_ix 3 (by omega) hL, ?_⟩
  refine hP _ _ _ _ _ ?_
  refine xwHiii _ _ _ rfl (fun r F' v' => r = (z_stand _ _ _ σ).1 ∧ HR (n + 1) σ F' v' ∧ F' 69 = bmT (z_stand _ _ _ σ).2 (F 69)) (fun K k => HX_stand n σ F v R _ _ _ (fun F' v' S' B' => k _ F' v' ⟨rfl, S', B'⟩)) (fun r F' v' b' q => ?_)
  obtain ⟨er, S', B'⟩ := q
  refine xWP_go 60 [(892, [0, 1, 2, 3])] fun P hP => ?_
  refine ⟨rfl, lw_ix 1 (by omega) hL, ?_⟩
  refine ⟨rfl, lw_ix 2 (by omega) hL, ?_⟩
  refine ⟨rfl, lw_ix 3 (by omega) hL, ?_⟩
  refine hP _ _ _ _ _ ?_
  refine xwMiii _ _ _ rfl (fun r F' v' => r = (z_stand _ _ _ σ).1 ∧ MR (n + 1) σ F' v' ∧ F' 5 = bmT (z_stand _ _ _ σ).2 (F2 5)) (fun K k => MX_stand n σ F2 v2 R2 _ _ _ (fun F' v' S' B' => k _ F' v' ⟨rfl, S', B'⟩)) (fun r3 F3 v3 b3 q => ?_)
  obtain ⟨er3, S3, B3⟩ := q
  refine xWP_go 60 [(18, [0, 1, 2, 3])] fun P hP => ?_
  refine hP _ _ _ _ _ ?_
  exact hk _ _ ⟨F', v', F3, v3, _, rfl, S', S3, bm_eq B' B3 EQ⟩
set_option maxRecDepth 100000 in
theorem lw_c19 (L : Nat) (hL : L ≤ 3072) (xs : Nat → Int32) (i n : Nat) (hi : i + 6 ≤ L) (hn : n < 1000) (F v F2 v2 : xS) (σ : xZ) (R : HR n σ F v) (R2 : MR n σ F2 v2) (EQ : ∀ j, j < 6 → F 69 j = F2 5 j) (b : xB) (hk : ∀ w b, lwI (n + 1) w → xWP (pg_Z_law L xs) xK1 18 (xl1 (nI i + 6)) [] w b) : xWP (pg_Z_law L xs) xK1 899 (xl1 (nI i)) [] (xfill F v 0 wH0 ++ xfill F2 v2 0 (wM0 70)) b := by
  refine xWP_go 60 [(905, [0, 1, 2, 3])] fun P hP => ?_
  refine ⟨rfl, lw_ix 1 (by omega) hL, ?_⟩
  refine hP _ _ _ _ _ ?_
  refine xwHi _ rfl (fun r F' v' => r = (z_steps _ σ).1 ∧ HR (n + 1) σ F' v' ∧ F' 69 = bmT (z_steps _ σ).2 (F 69)) (fun K k => HX_steps n σ F v R _ (fun F' v' S' B' => k _ F' v' ⟨rfl, S', B'⟩)) (fun r F' v' b' q => ?_)
  obtain ⟨er, S', B'⟩ := q
  refine xWP_go 60 [(915, [0, 1, 2, 3])] fun P hP => ?_
  refine ⟨rfl, lw_ix 1 (by omega) hL, ?_⟩
  refine hP _ _ _ _ _ ?_
  refine xwMi _ rfl (fun r F' v' => r = (z_steps _ σ).1 ∧ MR (n + 1) σ F' v' ∧ F' 5 = bmT (z_steps _ σ).2 (F2 5)) (fun K k => MX_steps n σ F2 v2 R2 _ (fun F' v' S' B' => k _ F' v' ⟨rfl, S', B'⟩)) (fun r3 F3 v3 b3 q => ?_)
  obtain ⟨er3, S3, B3⟩ := q
  refine xWP_go 60 [(18, [0, 1, 2, 3])] fun P hP => ?_
  refine hP _ _ _ _ _ ?_
  exact hk _ _ ⟨F', v', F3, v3, _, rfl, S', S3, bm_eq B' B3 EQ⟩
set_option maxRecDepth 100000 in
theorem lw_c20 (L : Nat) (hL : L ≤ 3072) (xs : Nat → Int32) (i n : Nat) (hi : i + 6 ≤ L) (hn : n < 1000) (F v F2 v2 : xS) (σ : xZ) (R : HR n σ F v) (R2 : MR n σ F2 v2) (EQ : ∀ j, j < 6 → F 69 j = F2 5 j) (b : xB) (hk : ∀ w b, lwI (n + 1) w → xWP (pg_Z_law L xs) xK1 18 (xl1 (nI i + 6)) [] w b) : xWP (pg_Z_law L xs) xK1 922 (xl1 (nI i)) [] (xfill F v 0 wH0 ++ xfill F2 v2 0 (wM0 70)) b := by
  refine xWP_go 60 [(938, [0, 1, 2, 3])] fun P hP => ?_
  refine ⟨rfl, lw_ix 1 (by omega) hL, ?_⟩
  refine ⟨rfl, lw_ix 2 (by omega) hL, ?_⟩
  refine ⟨rfl, lw_ix 3 (by omega) hL, ?_⟩
  refine hP _ _ _ _ _ ?_
  refine xwHiii _ _ _ rfl (fun r F' v' => r = (z_take _ _ _ σ).1 ∧ HR (n + 1) σ F' v' ∧ F' 69 = bmT (z_take _ _ _ σ).2 (F 69)) (fun K k => HX_take n σ F v R _ _ _ (fun F' v' S' B' => k _ F' v' ⟨rfl, S', B'⟩)) (fun r F' v' b' q => ?_)
  obtain ⟨er, S', B'⟩ := q
  refine xWP_go 60 [(958, [0, 1, 2, 3])] fun P hP => ?_
  refine ⟨rfl, lw_ix 1 (by omega) hL, ?_⟩
  refine ⟨rfl, lw_ix 2 (by omega) hL, ?_⟩
  refine ⟨rfl, lw_ix 3 (by omega) hL, ?_⟩
  refine hP _ _ _ _ _ ?_
  refine xwMiii _ _ _ rfl (fun r F' v' => r = (z_take _ _ _ σ).1 ∧ MR (n + 1) σ F' v' ∧ F' 5 = bmT (z_take _ _ _ σ).2 (F2 5)) (fun K k => MX_take n σ F2 v2 R2 _ _ _ (fun F' v' S' B' => k _ F' v' ⟨rfl, S', B'⟩)) (fun r3 F3 v3 b3 q => ?_)
  obtain ⟨er3, S3, B3⟩ := q
  refine xWP_go 60 [(18, [0, 1, 2, 3])] fun P hP => ?_
  refine hP _ _ _ _ _ ?_
  exact hk _ _ ⟨F', v', F3, v3, _, rfl, S', S3, bm_eq B' B3 EQ⟩
set_option maxRecDepth 100000 in
theorem lw_c21 (L : Nat) (hL : L ≤ 3072) (xs : Nat → Int32) (i n : Nat) (hi : i + 6 ≤ L) (hn : n < 1000) (F v F2 v2 : xS) (σ : xZ) (R : HR n σ F v) (R2 : MR n σ F2 v2) (EQ : ∀ j, j < 6 → F 69 j = F2 5 j) (b : xB) (hk : ∀ w b, lwI (n + 1) w → xWP (pg_Z_law L xs) xK1 18 (xl1 (nI i + 6)) [] w b) : xWP (pg_Z_law L xs) xK1 965 (xl1 (nI i)) [] (xfill F v 0 wH0 ++ xfill F2 v2 0 (wM0 70)) b := by
  refine xWP_go 60 [(981, [0, 1, 2, 3])] fun P hP => ?_
  refine ⟨rfl, lw_ix 1 (by omega) hL, ?_⟩
  refine ⟨rfl, lw_ix 2 (by omega) hL, ?_⟩
  refine ⟨rfl, lw_ix 3 (by omega) hL, ?_⟩
  refine hP _ _ _ _ _ ?_
  refine xwHiii _ _ _ rfl (fun r F' v' => r = (z_lay _ _ _ σ).1 ∧ HR (n + 1) σ F' v' ∧ F' 69 = bmT (z_lay _ _ _ σ).2 (F 69)) (fun K k => HX_lay n σ F v R _ _ _ (fun F' v' S' B' => k _ F' v' ⟨rfl, S', B'⟩)) (fun r F' v' b' q => ?_)
  obtain ⟨er, S', B'⟩ := q
  refine xWP_go 60 [(1001, [0, 1, 2, 3])] fun P hP => ?_
  refine ⟨rfl, lw_ix 1 (by omega) hL, ?_⟩
  refine ⟨rfl, lw_ix 2 (by omega) hL, ?_⟩
  refine ⟨rfl, lw_ix 3 (by omega) hL, ?_⟩
  refine hP _ _ _ _ _ ?_
  refine xwMiii _ _ _ rfl (fun r F' v' => r = (z_lay _ _ _ σ).1 ∧ MR (n + 1) σ F' v' ∧ F' 5 = bmT (z_lay _ _ _ σ).2 (F2 5)) (fun K k => MX_lay n σ F2 v2 R2 _ _ _ (fun F' v' S' B' => k _ F' v' ⟨rfl, S', B'⟩)) (fun r3 F3 v3 b3 q => ?_)
  obtain ⟨er3, S3, B3⟩ := q
  refine xWP_go 60 [(18, [0, 1, 2, 3])] fun P hP => ?_
  refine hP _ _ _ _ _ ?_
  exact hk _ _ ⟨F', v', F3, v3, _, rfl, S', S3, bm_eq B' B3 EQ⟩
set_option maxRecDepth 100000 in
theorem lw_c22 (L : Nat) (hL : L ≤ 3072) (xs : Nat → Int32) (i n : Nat) (hi : i + 6 ≤ L) (hn : n < 1000) (F v F2 v2 : xS) (σ : xZ) (R : HR n σ F v) (R2 : MR n σ F2 v2) (EQ : ∀ j, j < 6 → F 69 j = F2 5 j) (b : xB) (hk : ∀ w b, lwI (n + 1) w → xWP (pg_Z_law L xs) xK1 18 (xl1 (nI i + 6)) [] w b) : xWP (pg_Z_law L xs) xK1 1008 (xl1 (nI i)) [] (xfill F v 0 wH0 ++ xfill F2 v2 0 (wM0 70)) b := by
  refine xWP_go 60 [(1019, [0, 1, 2, 3])] fun P hP => ?_
  refine ⟨rfl, lw_ix 1 (by omega) hL, ?_⟩
  refine ⟨rfl, lw_ix 2 (by omega) hL, ?_⟩
  refine hP _ _ _ _ _ ?_
  refine xwHii _ _ rfl (fun r F' v' => r = (z_called _ _ σ).1 ∧ HR (n + 1) σ F' v' ∧ F' 69 = bmT (z_called _ _ σ).2 (F 69)) (fun K k => HX_called n σ F v R _ _ (fun F' v' S' B' => k _ F' v' ⟨rfl, S', B'⟩)) (fun r F' v' b' q => ?_)
  obtain ⟨er, S', B'⟩ := q
  refine xWP_go 60 [(1034, [0, 1, 2, 3])] fun P hP => ?_
  refine ⟨rfl, lw_ix 1 (by omega) hL, ?_⟩
  refine ⟨rfl, lw_ix 2 (by omega) hL, ?_⟩
  refine hP _ _ _ _ _ ?_
  refine xwMii _ _ rfl (fun r F' v' => r = (z_called _ _ σ).1 ∧ MR (n + 1) σ F' v' ∧ F' 5 = bmT (z_called _ _ σ).2 (F2 5)) (fun K k => MX_called n σ F2 v2 R2 _ _ (fun F' v' S' B' => k _ F' v' ⟨rfl, S', B'⟩)) (fun r3 F3 v3 b3 q => ?_)
  obtain ⟨er3, S3, B3⟩ := q
  refine xWP_go 60 [(18, [0, 1, 2, 3])] fun P hP => ?_
  refine hP _ _ _ _ _ ?_
  exact hk _ _ ⟨F', v', F3, v3, _, rfl, S', S3, bm_eq B' B3 EQ⟩
set_option maxRecDepth 100000 in
theorem lw_c23 (L : Nat) (hL : L ≤ 3072) (xs : Nat → Int32) (i n : Nat) (hi : i + 6 ≤ L) (hn : n < 1000) (F v F2 v2 : xS) (σ : xZ) (R : HR n σ F v) (R2 : MR n σ F2 v2) (EQ : ∀ j, j < 6 → F 69 j = F2 5 j) (b : xB) (hk : ∀ w b, lwI (n + 1) w → xWP (pg_Z_law L xs) xK1 18 (xl1 (nI i + 6)) [] w b) : xWP (pg_Z_law L xs) xK1 1041 (xl1 (nI i)) [] (xfill F v 0 wH0 ++ xfill F2 v2 0 (wM0 70)) b := by
  refine xWP_go 60 [(1052, [0, 1, 2, 3])] fun P hP => ?_
  refine ⟨rfl, lw_ix 1 (by omega) hL, ?_⟩
  refine ⟨rfl, lw_ix 2 (by omega) hL, ?_⟩
  refine hP _ _ _ _ _ ?_
  refine xwHii _ _ rfl (fun r F' v' => r = (z_mark 2 _ _ σ).1 ∧ HR (n + 1) σ F' v' ∧ F' 69 = bmT (z_mark 2 _ _ σ).2 (F 69)) (fun K k => HX_parts n σ F v R _ _ (fun F' v' S' B' => k _ F' v' ⟨rfl, S', B'⟩)) (fun r F' v' b' q => ?_)
  obtain ⟨er, S', B'⟩ := q
  refine xWP_go 60 [(1067, [0, 1, 2, 3])] fun P hP => ?_
  refine ⟨rfl, lw_ix 1 (by omega) hL, ?_⟩
  refine ⟨rfl, lw_ix 2 (by omega) hL, ?_⟩
  refine hP _ _ _ _ _ ?_
  refine xwMii _ _ rfl (fun r F' v' => r = (z_mark 2 _ _ σ).1 ∧ MR (n + 1) σ F' v' ∧ F' 5 = bmT (z_mark 2 _ _ σ).2 (F2 5)) (fun K k => MX_parts n σ F2 v2 R2 _ _ (fun F' v' S' B' => k _ F' v' ⟨rfl, S', B'⟩)) (fun r3 F3 v3 b3 q => ?_)
  obtain ⟨er3, S3, B3⟩ := q
  refine xWP_go 60 [(18, [0, 1, 2, 3])] fun P hP => ?_
  refine hP _ _ _ _ _ ?_
  exact hk _ _ ⟨F', v', F3, v3, _, rfl, S', S3, bm_eq B' B3 EQ⟩
set_option maxRecDepth 100000 in
theorem lw_c24 (L : Nat) (hL : L ≤ 3072) (xs : Nat → Int32) (i n : Nat) (hi : i + 6 ≤ L) (hn : n < 1000) (F v F2 v2 : xS) (σ : xZ) (R : HR n σ F v) (R2 : MR n σ F2 v2) (EQ : ∀ j, j < 6 → F 69 j = F2 5 j) (b : xB) (hk : ∀ w b, lwI (n + 1) w → xWP (pg_Z_law L xs) xK1 18 (xl1 (nI i + 6)) [] w b) : xWP (pg_Z_law L xs) xK1 1074 (xl1 (nI i)) [] (xfill F v 0 wH0 ++ xfill F2 v2 0 (wM0 70)) b := by
  refine xWP_go 60 [(1080, [0, 1, 2, 3])] fun P hP => ?_
  refine ⟨rfl, lw_ix 1 (by omega) hL, ?_⟩
  refine hP _ _ _ _ _ ?_
  refine xwHi _ rfl (fun r F' v' => r = (z_never _ σ).1 ∧ HR (n + 1) σ F' v' ∧ F' 69 = bmT (z_never _ σ).2 (F 69)) (fun K k => HX_never n σ F v R _ (fun F' v' S' B' => k _ F' v' ⟨rfl, S', B'⟩)) (fun r F' v' b' q => ?_)
  obtain ⟨er, S', B'⟩ := q
  refine xWP_go 60 [(1090, [0, 1, 2, 3])] fun P hP => ?_
  refine ⟨rfl, lw_ix 1 (by omega) hL, ?_⟩
  refine hP _ _ _ _ _ ?_
  refine xwMi _ rfl (fun r F' v' => r = (z_never _ σ).1 ∧ MR (n + 1) σ F' v' ∧ F' 5 = bmT (z_never _ σ).2 (F2 5)) (fun K k => MX_never n σ F2 v2 R2 _ (fun F' v' S' B' => k _ F' v' ⟨rfl, S', B'⟩)) (fun r3 F3 v3 b3 q => ?_)
  obtain ⟨er3, S3, B3⟩ := q
  refine xWP_go 60 [(18, [0, 1, 2, 3])] fun P hP => ?_
  refine hP _ _ _ _ _ ?_
  exact hk _ _ ⟨F', v', F3, v3, _, rfl, S', S3, bm_eq B' B3 EQ⟩
set_option maxRecDepth 100000 in
theorem lw_c25 (L : Nat) (hL : L ≤ 3072) (xs : Nat → Int32) (i n : Nat) (hi : i + 6 ≤ L) (hn : n < 1000) (F v F2 v2 : xS) (σ : xZ) (R : HR n σ F v) (R2 : MR n σ F2 v2) (EQ : ∀ j, j < 6 → F 69 j = F2 5 j) (b : xB) (hk : ∀ w b, lwI (n + 1) w → xWP (pg_Z_law L xs) xK1 18 (xl1 (nI i + 6)) [] w b) : xWP (pg_Z_law L xs) xK1 1097 (xl1 (nI i)) [] (xfill F v 0 wH0 ++ xfill F2 v2 0 (wM0 70)) b := by
  refine xWP_go 60 [(1113, [0, 1, 2, 3])] fun P hP => ?_
  refine ⟨rfl, lw_ix 1 (by omega) hL, ?_⟩
  refine ⟨rfl, lw_ix 2 (by omega) hL, ?_⟩
  refine ⟨rfl, lw_ix 3 (by omega) hL, ?_⟩
  refine hP _ _ _ _ _ ?_
  refine xwHiii _ _ _ rfl (fun r F' v' => r = (z_series _ _ _ σ).1 ∧ HR (n + 1) σ F' v' ∧ F' 69 = bmT (z_series _ _ _ σ).2 (F 69)) (fun K k => HX_series n σ F v R _ _ _ (fun F' v' S' B' => k _ F' v' ⟨rfl, S', B'⟩)) (fun r F' v' b' q => ?_)
  obtain ⟨er, S', B'⟩ := q
  refine xWP_go 60 [(1133, [0, 1, 2, 3])] fun P hP => ?_
  refine ⟨rfl, lw_ix 1 (by omega) hL, ?_⟩
  refine ⟨rfl, lw_ix 2 (by omega) hL, ?_⟩
  refine ⟨rfl, lw_ix 3 (by omega) hL, ?_⟩
  refine hP _ _ _ _ _ ?_
  refine xwMiii _ _ _ rfl (fun r F' v' => r = (z_series _ _ _ σ).1 ∧ MR (n + 1) σ F' v' ∧ F' 5 = bmT (z_series _ _ _ σ).2 (F2 5)) (fun K k => MX_series n σ F2 v2 R2 _ _ _ (fun F' v' S' B' => k _ F' v' ⟨rfl, S', B'⟩)) (fun r3 F3 v3 b3 q => ?_)
  obtain ⟨er3, S3, B3⟩ := q
  refine xWP_go 60 [(18, [0, 1, 2, 3])] fun P hP => ?_
  refine hP _ _ _ _ _ ?_
  exact hk _ _ ⟨F', v', F3, v3, _, rfl, S', S3, bm_eq B' B3 EQ⟩
set_option maxRecDepth 100000 in
theorem lw_c26 (L : Nat) (hL : L ≤ 3072) (xs : Nat → Int32) (i n : Nat) (hi : i + 6 ≤ L) (hn : n < 1000) (F v F2 v2 : xS) (σ : xZ) (R : HR n σ F v) (R2 : MR n σ F2 v2) (EQ : ∀ j, j < 6 → F 69 j = F2 5 j) (b : xB) (hk : ∀ w b, lwI (n + 1) w → xWP (pg_Z_law L xs) xK1 18 (xl1 (nI i + 6)) [] w b) : xWP (pg_Z_law L xs) xK1 1140 (xl1 (nI i)) [] (xfill F v 0 wH0 ++ xfill F2 v2 0 (wM0 70)) b := by
  refine xWP_go 60 [(1156, [0, 1, 2, 3])] fun P hP => ?_
  refine ⟨rfl, lw_ix 1 (by omega) hL, ?_⟩
  refine ⟨rfl, lw_ix 2 (by omega) hL, ?_⟩
  refine ⟨rfl, lw_ix 3 (by omega) hL, ?_⟩
  refine hP _ _ _ _ _ ?_
  refine xwHiii _ _ _ rfl (fun r F' v' => r = (z_odds _ _ _ σ).1 ∧ HR (n + 1) σ F' v' ∧ F' 69 = bmT (z_odds _ _ _ σ).2 (F 69)) (fun K k => HX_odds n σ F v R _ _ _ (fun F' v' S' B' => k _ F' v' ⟨rfl, S', B'⟩)) (fun r F' v' b' q => ?_)
  obtain ⟨er, S', B'⟩ := q
  refine xWP_go 60 [(1176, [0, 1, 2, 3])] fun P hP => ?_
  refine ⟨rfl, lw_ix 1 (by omega) hL, ?_⟩
  refine ⟨rfl, lw_ix 2 (by omega) hL, ?_⟩
  refine ⟨rfl, lw_ix 3 (by omega) hL, ?_⟩
  refine hP _ _ _ _ _ ?_
  refine xwMiii _ _ _ rfl (fun r F' v' => r = (z_odds _ _ _ σ).1 ∧ MR (n + 1) σ F' v' ∧ F' 5 = bmT (z_odds _ _ _ σ).2 (F2 5)) (fun K k => MX_odds n σ F2 v2 R2 _ _ _ (fun F' v' S' B' => k _ F' v' ⟨rfl, S', B'⟩)) (fun r3 F3 v3 b3 q => ?_)
  obtain ⟨er3, S3, B3⟩ := q
  refine xWP_go 60 [(18, [0, 1, 2, 3])] fun P hP => ?_
  refine hP _ _ _ _ _ ?_
  exact hk _ _ ⟨F', v', F3, v3, _, rfl, S', S3, bm_eq B' B3 EQ⟩
set_option maxRecDepth 100000 in
theorem lw_c27 (L : Nat) (hL : L ≤ 3072) (xs : Nat → Int32) (i n : Nat) (hi : i + 6 ≤ L) (hn : n < 1000) (F v F2 v2 : xS) (σ : xZ) (R : HR n σ F v) (R2 : MR n σ F2 v2) (EQ : ∀ j, j < 6 → F 69 j = F2 5 j) (b : xB) (hk : ∀ w b, lwI (n + 1) w → xWP (pg_Z_law L xs) xK1 18 (xl1 (nI i + 6)) [] w b) : xWP (pg_Z_law L xs) xK1 1183 (xl1 (nI i)) [] (xfill F v 0 wH0 ++ xfill F2 v2 0 (wM0 70)) b := by
  refine xWP_go 60 [(1189, [0, 1, 2, 3])] fun P hP => ?_
  refine ⟨rfl, lw_ix 1 (by omega) hL, ?_⟩
  refine hP _ _ _ _ _ ?_
  refine xwHi _ rfl (fun r F' v' => r = (f_seed _ σ.1).1 ∧ HR (n + 1) (g_seed _ σ.1, σ.2) F' v' ∧ F' 69 = bmT (f_seed _ σ.1).2 (F 69)) (fun K k => HX_seed n σ F v R _ (fun F' v' S' B' => k _ F' v' ⟨rfl, S', B'⟩)) (fun r F' v' b' q => ?_)
  obtain ⟨er, S', B'⟩ := q
  refine xWP_go 60 [(1199, [0, 1, 2, 3])] fun P hP => ?_
  refine ⟨rfl, lw_ix 1 (by omega) hL, ?_⟩
  refine hP _ _ _ _ _ ?_
  refine xwMi _ rfl (fun r F' v' => r = (f_seed _ σ.1).1 ∧ MR (n + 1) (g_seed _ σ.1, σ.2) F' v' ∧ F' 5 = bmT (f_seed _ σ.1).2 (F2 5)) (fun K k => MX_seed n σ F2 v2 R2 _ (fun F' v' S' B' => k _ F' v' ⟨rfl, S', B'⟩)) (fun r3 F3 v3 b3 q => ?_)
  obtain ⟨er3, S3, B3⟩ := q
  refine xWP_go 60 [(18, [0, 1, 2, 3])] fun P hP => ?_
  refine hP _ _ _ _ _ ?_
  exact hk _ _ ⟨F', v', F3, v3, _, rfl, S', S3, bm_eq B' B3 EQ⟩
set_option maxRecDepth 100000 in
theorem lw_c28 (L : Nat) (hL : L ≤ 3072) (xs : Nat → Int32) (i n : Nat) (hi : i + 6 ≤ L) (hn : n < 1000) (F v F2 v2 : xS) (σ : xZ) (R : HR n σ F v) (R2 : MR n σ F2 v2) (EQ : ∀ j, j < 6 → F 69 j = F2 5 j) (b : xB) (hk : ∀ w b, lwI (n + 1) w → xWP (pg_Z_law L xs) xK1 18 (xl1 (nI i + 6)) [] w b) : xWP (pg_Z_law L xs) xK1 1206 (xl1 (nI i)) [] (xfill F v 0 wH0 ++ xfill F2 v2 0 (wM0 70)) b := by
  refine xWP_go 60 [(1222, [0, 1, 2, 3])] fun P hP => ?_
  refine ⟨rfl, lw_ix 1 (by omega) hL, ?_⟩
  refine ⟨rfl, lw_ix 2 (by omega) hL, ?_⟩
  refine ⟨rfl, lw_ix 3 (by omega) hL, ?_⟩
  refine hP _ _ _ _ _ ?_
  refine xwHiii _ _ _ rfl (fun r F' v' => r = (f_voice _ _ _ σ.1).1 ∧ HR (n + 1) (g_voice _ _ _ σ.1, σ.2) F' v' ∧ F' 69 = bmT (f_voice _ _ _ σ.1).2 (F 69)) (fun K k => HX_voice n σ F v R _ _ _ (fun F' v' S' B' => k _ F' v' ⟨rfl, S', B'⟩)) (fun r F' v' b' q => ?_)
  obtain ⟨er, S', B'⟩ := q
  refine xWP_go 60 [(1242, [0, 1, 2, 3])] fun P hP => ?_
  refine ⟨rfl, lw_ix 1 (by omega) hL, ?_⟩
  refine ⟨rfl, lw_ix 2 (by omega) hL, ?_⟩
  refine ⟨rfl, lw_ix 3 (by omega) hL, ?_⟩
  refine hP _ _ _ _ _ ?_
  refine xwMiii _ _ _ rfl (fun r F' v' => r = (f_voice _ _ _ σ.1).1 ∧ MR (n + 1) (g_voice _ _ _ σ.1, σ.2) F' v' ∧ F' 5 = bmT (f_voice _ _ _ σ.1).2 (F2 5)) (fun K k => MX_voice n σ F2 v2 R2 _ _ _ (fun F' v' S' B' => k _ F' v' ⟨rfl, S', B'⟩)) (fun r3 F3 v3 b3 q => ?_)
  obtain ⟨er3, S3, B3⟩ := q
  refine xWP_go 60 [(18, [0, 1, 2, 3])] fun P hP => ?_
  refine hP _ _ _ _ _ ?_
  exact hk _ _ ⟨F', v', F3, v3, _, rfl, S', S3, bm_eq B' B3 EQ⟩
set_option maxRecDepth 100000 in
theorem lw_c29 (L : Nat) (hL : L ≤ 3072) (xs : Nat → Int32) (i n : Nat) (hi : i + 6 ≤ L) (hn : n < 1000) (F v F2 v2 : xS) (σ : xZ) (R : HR n σ F v) (R2 : MR n σ F2 v2) (EQ : ∀ j, j < 6 → F 69 j = F2 5 j) (b : xB) (hk : ∀ w b, lwI (n + 1) w → xWP (pg_Z_law L xs) xK1 18 (xl1 (nI i + 6)) [] w b) : xWP (pg_Z_law L xs) xK1 1249 (xl1 (nI i)) [] (xfill F v 0 wH0 ++ xfill F2 v2 0 (wM0 70)) b := by
  refine xWP_go 60 [(1255, [0, 1, 2, 3])] fun P hP => ?_
  refine ⟨rfl, lw_ix 1 (by omega) hL, ?_⟩
  refine hP _ _ _ _ _ ?_
  refine xwHi _ rfl (fun r F' v' => r = (f_trace _ σ.1).1 ∧ HR (n + 1) σ F' v' ∧ F' 69 = bmT (f_trace _ σ.1).2 (F 69)) (fun K k => HX_trace n σ F v R _ (fun F' v' S' B' => k _ F' v' ⟨rfl, S', B'⟩)) (fun r F' v' b' q => ?_)
  obtain ⟨er, S', B'⟩ := q
  refine xWP_go 60 [(1265, [0, 1, 2, 3])] fun P hP => ?_
  refine ⟨rfl, lw_ix 1 (by omega) hL, ?_⟩
  refine hP _ _ _ _ _ ?_
  refine xwMi _ rfl (fun r F' v' => r = (f_trace _ σ.1).1 ∧ MR (n + 1) σ F' v' ∧ F' 5 = bmT (f_trace _ σ.1).2 (F2 5)) (fun K k => MX_trace n σ F2 v2 R2 _ (fun F' v' S' B' => k _ F' v' ⟨rfl, S', B'⟩)) (fun r3 F3 v3 b3 q => ?_)
  obtain ⟨er3, S3, B3⟩ := q
  refine xWP_go 60 [(18, [0, 1, 2, 3])] fun P hP => ?_
  refine hP _ _ _ _ _ ?_
  exact hk _ _ ⟨F', v', F3, v3, _, rfl, S', S3, bm_eq B' B3 EQ⟩
set_option maxRecDepth 100000 in
theorem lw_c30 (L : Nat) (hL : L ≤ 3072) (xs : Nat → Int32) (i n : Nat) (hi : i + 6 ≤ L) (hn : n < 1000) (F v F2 v2 : xS) (σ : xZ) (R : HR n σ F v) (R2 : MR n σ F2 v2) (EQ : ∀ j, j < 6 → F 69 j = F2 5 j) (b : xB) (hk : ∀ w b, lwI (n + 1) w → xWP (pg_Z_law L xs) xK1 18 (xl1 (nI i + 6)) [] w b) : xWP (pg_Z_law L xs) xK1 1272 (xl1 (nI i)) [] (xfill F v 0 wH0 ++ xfill F2 v2 0 (wM0 70)) b := by
  refine xWP_go 60 [(1288, [0, 1, 2, 3])] fun P hP => ?_
  refine ⟨rfl, lw_ix 1 (by omega) hL, ?_⟩
  refine ⟨rfl, lw_ix 2 (by omega) hL, ?_⟩
  refine ⟨rfl, lw_ix 3 (by omega) hL, ?_⟩
  refine hP _ _ _ _ _ ?_
  refine xwHiii _ _ _ rfl (fun r F' v' => r = (f_sheet _ _ _ σ.1).1 ∧ HR (n + 1) (g_sheet _ _ _ σ.1, σ.2) F' v' ∧ F' 69 = bmT (f_sheet _ _ _ σ.1).2 (F 69)) (fun K k => HX_sheet n σ F v R _ _ _ (fun F' v' S' B' => k _ F' v' ⟨rfl, S', B'⟩)) (fun r F' v' b' q => ?_)
  obtain ⟨er, S', B'⟩ := q
  refine xWP_go 60 [(1308, [0, 1, 2, 3])] fun P hP => ?_
  refine ⟨rfl, lw_ix 1 (by omega) hL, ?_⟩
  refine ⟨rfl, lw_ix 2 (by omega) hL, ?_⟩
  refine ⟨rfl, lw_ix 3 (by omega) hL, ?_⟩
  refine hP _ _ _ _ _ ?_
  refine xwMiii _ _ _ rfl (fun r F' v' => r = (f_sheet _ _ _ σ.1).1 ∧ MR (n + 1) (g_sheet _ _ _ σ.1, σ.2) F' v' ∧ F' 5 = bmT (f_sheet _ _ _ σ.1).2 (F2 5)) (fun K k => MX_sheet n σ F2 v2 R2 _ _ _ (fun F' v' S' B' => k _ F' v' ⟨rfl, S', B'⟩)) (fun r3 F3 v3 b3 q => ?_)
  obtain ⟨er3, S3, B3⟩ := q
  refine xWP_go 60 [(18, [0, 1, 2, 3])] fun P hP => ?_
  refine hP _ _ _ _ _ ?_
  exact hk _ _ ⟨F', v', F3, v3, _, rfl, S', S3, bm_eq B' B3 EQ⟩
set_option maxRecDepth 100000 in
theorem lw_c31 (L : Nat) (hL : L ≤ 3072) (xs : Nat → Int32) (i n : Nat) (hi : i + 6 ≤ L) (hn : n < 1000) (F v F2 v2 : xS) (σ : xZ) (R : HR n σ F v) (R2 : MR n σ F2 v2) (EQ : ∀ j, j < 6 → F 69 j = F2 5 j) (b : xB) (hk : ∀ w b, lwI (n + 1) w → xWP (pg_Z_law L xs) xK1 18 (xl1 (nI i + 6)) [] w b) : xWP (pg_Z_law L xs) xK1 1315 (xl1 (nI i)) [] (xfill F v 0 wH0 ++ xfill F2 v2 0 (wM0 70)) b := by
  refine xWP_go 60 [(1331, [0, 1, 2, 3])] fun P hP => ?_
  refine ⟨rfl, lw_ix 1 (by omega) hL, ?_⟩
  refine ⟨rfl, lw_ix 2 (by omega) hL, ?_⟩
  refine ⟨rfl, lw_ix 3 (by omega) hL, ?_⟩
  refine hP _ _ _ _ _ ?_
  refine xwHiii _ _ _ rfl (fun r F' v' => r = (f_put _ _ _ σ.1).1 ∧ HR (n + 1) (g_put _ _ _ σ.1, σ.2) F' v' ∧ F' 69 = bmT (f_put _ _ _ σ.1).2 (F 69)) (fun K k => HX_put n σ F v R _ _ _ (fun F' v' S' B' => k _ F' v' ⟨rfl, S', B'⟩)) (fun r F' v' b' q => ?_)
  obtain ⟨er, S', B'⟩ := q
  refine xWP_go 60 [(1351, [0, 1, 2, 3])] fun P hP => ?_
  refine ⟨rfl, lw_ix 1 (by omega) hL, ?_⟩
  refine ⟨rfl, lw_ix 2 (by omega) hL, ?_⟩
  refine ⟨rfl, lw_ix 3 (by omega) hL, ?_⟩
  refine hP _ _ _ _ _ ?_
  refine xwMiii _ _ _ rfl (fun r F' v' => r = (f_put _ _ _ σ.1).1 ∧ MR (n + 1) (g_put _ _ _ σ.1, σ.2) F' v' ∧ F' 5 = bmT (f_put _ _ _ σ.1).2 (F2 5)) (fun K k => MX_put n σ F2 v2 R2 _ _ _ (fun F' v' S' B' => k _ F' v' ⟨rfl, S', B'⟩)) (fun r3 F3 v3 b3 q => ?_)
  obtain ⟨er3, S3, B3⟩ := q
  refine xWP_go 60 [(18, [0, 1, 2, 3])] fun P hP => ?_
  refine hP _ _ _ _ _ ?_
  exact hk _ _ ⟨F', v', F3, v3, _, rfl, S', S3, bm_eq B' B3 EQ⟩
set_option maxRecDepth 100000 in
theorem lw_c32 (L : Nat) (hL : L ≤ 3072) (xs : Nat → Int32) (i n : Nat) (hi : i + 6 ≤ L) (hn : n < 1000) (F v F2 v2 : xS) (σ : xZ) (R : HR n σ F v) (R2 : MR n σ F2 v2) (EQ : ∀ j, j < 6 → F 69 j = F2 5 j) (b : xB) (hk : ∀ w b, lwI (n + 1) w → xWP (pg_Z_law L xs) xK1 18 (xl1 (nI i + 6)) [] w b) : xWP (pg_Z_law L xs) xK1 1358 (xl1 (nI i)) [] (xfill F v 0 wH0 ++ xfill F2 v2 0 (wM0 70)) b := by
  refine xWP_go 60 [(1384, [0, 1, 2, 3])] fun P hP => ?_
  refine ⟨rfl, lw_ix 1 (by omega) hL, ?_⟩
  refine ⟨rfl, lw_ix 2 (by omega) hL, ?_⟩
  refine ⟨rfl, lw_ix 3 (by omega) hL, ?_⟩
  refine ⟨rfl, lw_ix 4 (by omega) hL, ?_⟩
  refine ⟨rfl, lw_ix 5 (by omega) hL, ?_⟩
  refine hP _ _ _ _ _ ?_
  refine xwHiiiii _ _ _ _ _ rfl (fun r F' v' => r = (f_move _ _ _ _ _ σ.1).1 ∧ HR (n + 1) (g_move _ _ _ _ _ σ.1, σ.2) F' v' ∧ F' 69 = bmT (f_move _ _ _ _ _ σ.1).2 (F 69)) (fun K k => HX_move n σ F v R _ _ _ _ _ (fun F' v' S' B' => k _ F' v' ⟨rfl, S', B'⟩)) (fun r F' v' b' q => ?_)
  obtain ⟨er, S', B'⟩ := q
  refine xWP_go 60 [(1414, [0, 1, 2, 3])] fun P hP => ?_
  refine ⟨rfl, lw_ix 1 (by omega) hL, ?_⟩
  refine ⟨rfl, lw_ix 2 (by omega) hL, ?_⟩
  refine ⟨rfl, lw_ix 3 (by omega) hL, ?_⟩
  refine ⟨rfl, lw_ix 4 (by omega) hL, ?_⟩
  refine ⟨rfl, lw_ix 5 (by omega) hL, ?_⟩
  refine hP _ _ _ _ _ ?_
  refine xwMiiiii _ _ _ _ _ rfl (fun r F' v' => r = (f_move _ _ _ _ _ σ.1).1 ∧ MR (n + 1) (g_move _ _ _ _ _ σ.1, σ.2) F' v' ∧ F' 5 = bmT (f_move _ _ _ _ _ σ.1).2 (F2 5)) (fun K k => MX_move n σ F2 v2 R2 _ _ _ _ _ (fun F' v' S' B' => k _ F' v' ⟨rfl, S', B'⟩)) (fun r3 F3 v3 b3 q => ?_)
  obtain ⟨er3, S3, B3⟩ := q
  refine xWP_go 60 [(18, [0, 1, 2, 3])] fun P hP => ?_
  refine hP _ _ _ _ _ ?_
  exact hk _ _ ⟨F', v', F3, v3, _, rfl, S', S3, bm_eq B' B3 EQ⟩
set_option maxRecDepth 100000 in
theorem lw_c33 (L : Nat) (hL : L ≤ 3072) (xs : Nat → Int32) (i n : Nat) (hi : i + 6 ≤ L) (hn : n < 1000) (F v F2 v2 : xS) (σ : xZ) (R : HR n σ F v) (R2 : MR n σ F2 v2) (EQ : ∀ j, j < 6 → F 69 j = F2 5 j) (b : xB) (hk : ∀ w b, lwI (n + 1) w → xWP (pg_Z_law L xs) xK1 18 (xl1 (nI i + 6)) [] w b) : xWP (pg_Z_law L xs) xK1 1421 (xl1 (nI i)) [] (xfill F v 0 wH0 ++ xfill F2 v2 0 (wM0 70)) b := by
  refine xWP_go 60 [(1427, [0, 1, 2, 3])] fun P hP => ?_
  refine ⟨rfl, lw_ix 1 (by omega) hL, ?_⟩
  refine hP _ _ _ _ _ ?_
  refine xwHi _ rfl (fun r F' v' => r = (f_places _ σ.1).1 ∧ HR (n + 1) (y_places _ σ) F' v' ∧ F' 69 = bmT (f_places _ σ.1).2 (F 69)) (fun K k => HX_places n σ F v R _ (fun F' v' S' B' => k _ F' v' ⟨rfl, S', B'⟩)) (fun r F' v' b' q => ?_)
  obtain ⟨er, S', B'⟩ := q
  refine xWP_go 60 [(1437, [0, 1, 2, 3])] fun P hP => ?_
  refine ⟨rfl, lw_ix 1 (by omega) hL, ?_⟩
  refine hP _ _ _ _ _ ?_
  refine xwMi _ rfl (fun r F' v' => r = (f_places _ σ.1).1 ∧ MR (n + 1) (y_places _ σ) F' v' ∧ F' 5 = bmT (f_places _ σ.1).2 (F2 5)) (fun K k => MX_places n σ F2 v2 R2 _ (fun F' v' S' B' => k _ F' v' ⟨rfl, S', B'⟩)) (fun r3 F3 v3 b3 q => ?_)
  obtain ⟨er3, S3, B3⟩ := q
  refine xWP_go 60 [(18, [0, 1, 2, 3])] fun P hP => ?_
  refine hP _ _ _ _ _ ?_
  exact hk _ _ ⟨F', v', F3, v3, _, rfl, S', S3, bm_eq B' B3 EQ⟩
set_option maxRecDepth 100000 in
theorem lw_c34 (L : Nat) (hL : L ≤ 3072) (xs : Nat → Int32) (i n : Nat) (hi : i + 6 ≤ L) (hn : n < 1000) (F v F2 v2 : xS) (σ : xZ) (R : HR n σ F v) (R2 : MR n σ F2 v2) (EQ : ∀ j, j < 6 → F 69 j = F2 5 j) (b : xB) (hk : ∀ w b, lwI (n + 1) w → xWP (pg_Z_law L xs) xK1 18 (xl1 (nI i + 6)) [] w b) : xWP (pg_Z_law L xs) xK1 1444 (xl1 (nI i)) [] (xfill F v 0 wH0 ++ xfill F2 v2 0 (wM0 70)) b := by
  refine xWP_go 60 [(1450, [0, 1, 2, 3])] fun P hP => ?_
  refine ⟨rfl, lw_ix 1 (by omega) hL, ?_⟩
  refine hP _ _ _ _ _ ?_
  refine xwHi _ rfl (fun r F' v' => True ∧ HR (n + 1) σ F' v' ∧ F' 69 = bmT (kd_judge _ σ.1) (F 69)) (fun K k => HX_judge n σ F v R _ (fun r F' v' S' B' => k _ F' v' ⟨trivial, S', B'⟩)) (fun r F' v' b' q => ?_)
  obtain ⟨er, S', B'⟩ := q
  refine xWP_go 60 [(1460, [0, 1, 2, 3])] fun P hP => ?_
  refine ⟨rfl, lw_ix 1 (by omega) hL, ?_⟩
  refine hP _ _ _ _ _ ?_
  refine xwMi _ rfl (fun r F' v' => True ∧ MR (n + 1) σ F' v' ∧ F' 5 = bmT (kd_judge _ σ.1) (F2 5)) (fun K k => MX_judge n σ F2 v2 R2 _ (fun r F' v' S' B' => k _ F' v' ⟨trivial, S', B'⟩)) (fun r3 F3 v3 b3 q => ?_)
  obtain ⟨er3, S3, B3⟩ := q
  refine xWP_go 60 [(18, [0, 1, 2, 3])] fun P hP => ?_
  refine hP _ _ _ _ _ ?_
  exact hk _ _ ⟨F', v', F3, v3, _, rfl, S', S3, bm_eq B' B3 EQ⟩
set_option maxRecDepth 100000 in
theorem lw_c35 (L : Nat) (hL : L ≤ 3072) (xs : Nat → Int32) (i n : Nat) (hi : i + 6 ≤ L) (hn : n < 1000) (F v F2 v2 : xS) (σ : xZ) (R : HR n σ F v) (R2 : MR n σ F2 v2) (EQ : ∀ j, j < 6 → F 69 j = F2 5 j) (b : xB) (hk : ∀ w b, lwI (n + 1) w → xWP (pg_Z_law L xs) xK1 18 (xl1 (nI i + 6)) [] w b) : xWP (pg_Z_law L xs) xK1 1467 (xl1 (nI i)) [] (xfill F v 0 wH0 ++ xfill F2 v2 0 (wM0 70)) b := by
  refine xWP_go 60 [(1468, [0, 1, 2, 3])] fun P hP => ?_
  refine hP _ _ _ _ _ ?_
  refine xwH rfl (fun r F' v' => r = (f_image σ.1).1 ∧ HR (n + 1) (y_image σ) F' v' ∧ F' 69 = bmT (f_image σ.1).2 (F 69)) (fun K k => HX_image n σ F v R (fun F' v' S' B' => k _ F' v' ⟨rfl, S', B'⟩)) (fun r F' v' b' q => ?_)
  obtain ⟨er, S', B'⟩ := q
  refine xWP_go 60 [(1473, [0, 1, 2, 3])] fun P hP => ?_
  refine hP _ _ _ _ _ ?_
  refine xwM rfl (fun r F' v' => r = (f_image σ.1).1 ∧ MR (n + 1) (y_image σ) F' v' ∧ F' 5 = bmT (f_image σ.1).2 (F2 5)) (fun K k => MX_image n σ F2 v2 R2 hn (fun F' v' S' B' => k _ F' v' ⟨rfl, S', B'⟩)) (fun r3 F3 v3 b3 q => ?_)
  obtain ⟨er3, S3, B3⟩ := q
  refine xWP_go 60 [(18, [0, 1, 2, 3])] fun P hP => ?_
  refine hP _ _ _ _ _ ?_
  exact hk _ _ ⟨F', v', F3, v3, _, rfl, S', S3, bm_eq B' B3 EQ⟩
set_option maxRecDepth 100000 in
theorem lw_c36 (L : Nat) (hL : L ≤ 3072) (xs : Nat → Int32) (i n : Nat) (hi : i + 6 ≤ L) (hn : n < 1000) (F v F2 v2 : xS) (σ : xZ) (R : HR n σ F v) (R2 : MR n σ F2 v2) (EQ : ∀ j, j < 6 → F 69 j = F2 5 j) (b : xB) (hk : ∀ w b, lwI (n + 1) w → xWP (pg_Z_law L xs) xK1 18 (xl1 (nI i + 6)) [] w b) : xWP (pg_Z_law L xs) xK1 1480 (xl1 (nI i)) [] (xfill F v 0 wH0 ++ xfill F2 v2 0 (wM0 70)) b := by
  refine xWP_go 60 [(1481, [0, 1, 2, 3])] fun P hP => ?_
  refine hP _ _ _ _ _ ?_
  refine xwH rfl (fun r F' v' => r = (f_restore σ.1).1 ∧ HR (n + 1) (y_restore σ) F' v' ∧ F' 69 = bmT (f_restore σ.1).2 (F 69)) (fun K k => HX_restore n σ F v R (fun F' v' S' B' => k _ F' v' ⟨rfl, S', B'⟩)) (fun r F' v' b' q => ?_)
  obtain ⟨er, S', B'⟩ := q
  refine xWP_go 60 [(1486, [0, 1, 2, 3])] fun P hP => ?_
  refine hP _ _ _ _ _ ?_
  refine xwM rfl (fun r F' v' => r = (f_restore σ.1).1 ∧ MR (n + 1) (y_restore σ) F' v' ∧ F' 5 = bmT (f_restore σ.1).2 (F2 5)) (fun K k => MX_restore n σ F2 v2 R2 (fun F' v' S' B' => k _ F' v' ⟨rfl, S', B'⟩)) (fun r3 F3 v3 b3 q => ?_)
  obtain ⟨er3, S3, B3⟩ := q
  refine xWP_go 60 [(18, [0, 1, 2, 3])] fun P hP => ?_
  refine hP _ _ _ _ _ ?_
  exact hk _ _ ⟨F', v', F3, v3, _, rfl, S', S3, bm_eq B' B3 EQ⟩
set_option maxRecDepth 100000 in
theorem lw_c37 (L : Nat) (hL : L ≤ 3072) (xs : Nat → Int32) (i n : Nat) (hi : i + 6 ≤ L) (hn : n < 1000) (F v F2 v2 : xS) (σ : xZ) (R : HR n σ F v) (R2 : MR n σ F2 v2) (EQ : ∀ j, j < 6 → F 69 j = F2 5 j) (b : xB) (hk : ∀ w b, lwI (n + 1) w → xWP (pg_Z_law L xs) xK1 18 (xl1 (nI i + 6)) [] w b) : xWP (pg_Z_law L xs) xK1 1493 (xl1 (nI i)) [] (xfill F v 0 wH0 ++ xfill F2 v2 0 (wM0 70)) b := by
  refine xWP_go 60 [(1499, [0, 1, 2, 3])] fun P hP => ?_
  refine ⟨rfl, lw_ix 1 (by omega) hL, ?_⟩
  refine hP _ _ _ _ _ ?_
  refine xwHi _ rfl (fun r F' v' => r = (f_tell _ σ.1).1 ∧ HR (n + 1) (g_tell _ σ.1, σ.2) F' v' ∧ F' 69 = bmT (f_tell _ σ.1).2 (F 69)) (fun K k => HX_tell n σ F v R _ (fun F' v' S' B' => k _ F' v' ⟨rfl, S', B'⟩)) (fun r F' v' b' q => ?_)
  obtain ⟨er, S', B'⟩ := q
  refine xWP_go 60 [(1509, [0, 1, 2, 3])] fun P hP => ?_
  refine ⟨rfl, lw_ix 1 (by omega) hL, ?_⟩
  refine hP _ _ _ _ _ ?_
  refine xwMi _ rfl (fun r F' v' => r = (f_tell _ σ.1).1 ∧ MR (n + 1) (g_tell _ σ.1, σ.2) F' v' ∧ F' 5 = bmT (f_tell _ σ.1).2 (F2 5)) (fun K k => MX_tell n σ F2 v2 R2 _ (fun F' v' S' B' => k _ F' v' ⟨rfl, S', B'⟩)) (fun r3 F3 v3 b3 q => ?_)
  obtain ⟨er3, S3, B3⟩ := q
  refine xWP_go 60 [(18, [0, 1, 2, 3])] fun P hP => ?_
  refine hP _ _ _ _ _ ?_
  exact hk _ _ ⟨F', v', F3, v3, _, rfl, S', S3, bm_eq B' B3 EQ⟩
set_option maxRecDepth 100000 in
theorem lw_c38 (L : Nat) (hL : L ≤ 3072) (xs : Nat → Int32) (i n : Nat) (hi : i + 6 ≤ L) (hn : n < 1000) (F v F2 v2 : xS) (σ : xZ) (R : HR n σ F v) (R2 : MR n σ F2 v2) (EQ : ∀ j, j < 6 → F 69 j = F2 5 j) (b : xB) (hk : ∀ w b, lwI (n + 1) w → xWP (pg_Z_law L xs) xK1 18 (xl1 (nI i + 6)) [] w b) : xWP (pg_Z_law L xs) xK1 1516 (xl1 (nI i)) [] (xfill F v 0 wH0 ++ xfill F2 v2 0 (wM0 70)) b := by
  refine xWP_go 60 [(1517, [0, 1, 2, 3])] fun P hP => ?_
  refine hP _ _ _ _ _ ?_
  refine xwH rfl (fun r F' v' => r = (z_check σ).1 ∧ HR (n + 1) (y_check σ) F' v' ∧ F' 69 = bmT (z_check σ).2 (F 69)) (fun K k => HX_check n σ F v R (fun F' v' S' B' => k _ F' v' ⟨rfl, S', B'⟩)) (fun r F' v' b' q => ?_)
  obtain ⟨er, S', B'⟩ := q
  refine xWP_go 60 [(1522, [0, 1, 2, 3])] fun P hP => ?_
  refine hP _ _ _ _ _ ?_
  refine xwM rfl (fun r F' v' => r = (z_check σ).1 ∧ MR (n + 1) (y_check σ) F' v' ∧ F' 5 = bmT (z_check σ).2 (F2 5)) (fun K k => MX_check n σ F2 v2 R2 (fun F' v' S' B' => k _ F' v' ⟨rfl, S', B'⟩)) (fun r3 F3 v3 b3 q => ?_)
  obtain ⟨er3, S3, B3⟩ := q
  refine xWP_go 60 [(18, [0, 1, 2, 3])] fun P hP => ?_
  refine hP _ _ _ _ _ ?_
  exact hk _ _ ⟨F', v', F3, v3, _, rfl, S', S3, bm_eq B' B3 EQ⟩
set_option maxRecDepth 100000 in
theorem lw_c39 (L : Nat) (hL : L ≤ 3072) (xs : Nat → Int32) (i n : Nat) (hi : i + 6 ≤ L) (hn : n < 1000) (F v F2 v2 : xS) (σ : xZ) (R : HR n σ F v) (R2 : MR n σ F2 v2) (EQ : ∀ j, j < 6 → F 69 j = F2 5 j) (b : xB) (hk : ∀ w b, lwI (n + 1) w → xWP (pg_Z_law L xs) xK1 18 (xl1 (nI i + 6)) [] w b) : xWP (pg_Z_law L xs) xK1 1529 (xl1 (nI i)) [] (xfill F v 0 wH0 ++ xfill F2 v2 0 (wM0 70)) b := by
  refine xWP_go 60 [(1535, [0, 1, 2, 3])] fun P hP => ?_
  refine ⟨rfl, lw_ix 1 (by omega) hL, ?_⟩
  refine hP _ _ _ _ _ ?_
  refine xwHi _ rfl (fun r F' v' => r = (z_count _ σ).1 ∧ HR (n + 1) σ F' v' ∧ F' 69 = bmT (z_count _ σ).2 (F 69)) (fun K k => HX_count n σ F v R _ (fun F' v' S' B' => k _ F' v' ⟨rfl, S', B'⟩)) (fun r F' v' b' q => ?_)
  obtain ⟨er, S', B'⟩ := q
  refine xWP_go 60 [(1545, [0, 1, 2, 3])] fun P hP => ?_
  refine ⟨rfl, lw_ix 1 (by omega) hL, ?_⟩
  refine hP _ _ _ _ _ ?_
  refine xwMi _ rfl (fun r F' v' => r = (z_count _ σ).1 ∧ MR (n + 1) σ F' v' ∧ F' 5 = bmT (z_count _ σ).2 (F2 5)) (fun K k => MX_count n σ F2 v2 R2 _ (fun F' v' S' B' => k _ F' v' ⟨rfl, S', B'⟩)) (fun r3 F3 v3 b3 q => ?_)
  obtain ⟨er3, S3, B3⟩ := q
  refine xWP_go 60 [(18, [0, 1, 2, 3])] fun P hP => ?_
  refine hP _ _ _ _ _ ?_
  exact hk _ _ ⟨F', v', F3, v3, _, rfl, S', S3, bm_eq B' B3 EQ⟩
set_option maxRecDepth 100000 in
theorem lw_c40 (L : Nat) (hL : L ≤ 3072) (xs : Nat → Int32) (i n : Nat) (hi : i + 6 ≤ L) (hn : n < 1000) (F v F2 v2 : xS) (σ : xZ) (R : HR n σ F v) (R2 : MR n σ F2 v2) (EQ : ∀ j, j < 6 → F 69 j = F2 5 j) (b : xB) (hk : ∀ w b, lwI (n + 1) w → xWP (pg_Z_law L xs) xK1 18 (xl1 (nI i + 6)) [] w b) : xWP (pg_Z_law L xs) xK1 1552 (xl1 (nI i)) [] (xfill F v 0 wH0 ++ xfill F2 v2 0 (wM0 70)) b := by
  refine xWP_go 60 [(1558, [0, 1, 2, 3])] fun P hP => ?_
  refine ⟨rfl, lw_ix 1 (by omega) hL, ?_⟩
  refine hP _ _ _ _ _ ?_
  refine xwHi _ rfl (fun r F' v' => r = (z_told _ (F 69)).1 ∧ HR (n + 1) σ F' v' ∧ F' 69 = bmT (z_told _ (F 69)).2 (F 69)) (fun K k => HX_told n σ F v R _ (fun F' v' S' B' => k _ F' v' ⟨rfl, S', B'⟩)) (fun r F' v' b' q => ?_)
  obtain ⟨er, S', B'⟩ := q
  refine xWP_go 60 [(1567, [0, 1, 2, 3])] fun P hP => ?_
  refine ⟨rfl, lw_ix 1 (by omega) hL, ?_⟩
  refine hP _ _ _ _ _ ?_
  refine xwMi1 _ rfl (fun r F' v' => r = (z_told _ (F2 5)).1 ∧ MR (n + 1) σ F' v' ∧ F' 5 = bmT (z_told _ (F2 5)).2 (F2 5)) (fun K k => MX_told n σ F2 v2 R2 _ (fun F' v' S' B' => k _ F' v' ⟨rfl, S', B'⟩)) (fun r3 F3 v3 b3 q => ?_)
  obtain ⟨er3, S3, B3⟩ := q
  rw [← told_eq EQ] at er3 B3
  refine xWP_go 60 [(18, [0, 1, 2, 3])] fun P hP => ?_
  refine br_c (fun _ => ?_) (fun z => absurd (er.trans er3.symm) z)
  refine hP _ _ _ _ _ ?_
  exact hk _ _ ⟨F', v', F3, v3, _, rfl, S', S3, bm_eq B' B3 EQ⟩
