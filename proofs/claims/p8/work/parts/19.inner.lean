/-! ===== small members, the street without children ===== -/
theorem sp_min (a b : Int32) {K : xKo} (h : K (some (.int (if a ≤ b then a else b))) []) : C_A_min [.int a, .int b] [] K := by
  refine xM_go rfl 40 [] fun P hP => ?_
  refine br_c (fun e => ?_) (fun e => ?_)
  · rw [if_neg (by simp only [xlt, xle] at e ⊢; omega)] at h
    exact h
  · rw [if_pos (by simp only [xlt, xle] at e ⊢; omega)] at h
    exact h
theorem sp_max (a b : Int32) {K : xKo} (h : K (some (.int (if b ≤ a then a else b))) []) : C_A_max [.int a, .int b] [] K := by
  refine xM_go rfl 40 [] fun P hP => ?_
  refine br_c (fun e => ?_) (fun e => ?_)
  · rw [if_neg (by simp only [xlt, xle] at e ⊢; omega)] at h
    exact h
  · rw [if_pos (by simp only [xlt, xle] at e ⊢; omega)] at h
    exact h
theorem sp_abs (a : Int32) {K : xKo} (h : K (some (.int (if 0 ≤ a then a else -a))) []) : C_A_abs [.int a] [] K := by
  refine xM_go rfl 40 [] fun P hP => ?_
  refine br_c (fun e => ?_) (fun e => ?_)
  · rw [if_pos (by simp only [xlt, xle] at e ⊢; omega)] at h
    exact h
  · rw [if_neg (by simp only [xlt, xle] at e ⊢; omega)] at h
    exact h
theorem sp_bitCount0 {K : xKo} (h : K (some (.int 0)) []) : C_I_bitCount [.int 0] [] K := by
  refine xM_go rfl 60 [] fun P hP => ?_
  exact h
/-- places of a street: field j of cell k -/
theorem sp_wouldBeHad0 {w : xW} (hw : xsame (wT0 0) w = true) (hc : xobjs w 0 8 = 0) (m t : Int32) {K : xKo} (h : K (some (.int 0)) w) : C_T_wouldBeHad [.ref 0, .int m, .int t] w K := by
  have key : ∀ F v, v 0 8 = 0 → K (some (.int 0)) (xfill F v 0 (wT0 0)) → C_T_wouldBeHad [.ref 0, .int m, .int t] (xfill F v 0 (wT0 0)) K := by
    intro F v hv hk
    refine xM_go rfl 60 [] fun P hP => ?_
    refine br_c (fun e => ?_) (fun e => ?_)
    · refine br_c (fun e => ?_) (fun e => ?_)
      · exact hk
      · exact absurd (by show v 0 8 ≤ 0; rw [hv]; decide) e
    · exact absurd (by show v 0 8 ≤ 0; rw [hv]; decide) e
  rw [xsame_fill hw] at h ⊢
  exact key _ _ hc h
theorem sp_play0 {w : xW} (hw : xsame (wT0 0) w = true) (hc : xobjs w 0 8 = 0) (m t : Int32) {K : xKo} (h : ∀ F v, v 0 8 = 0 → K (some (.int 0)) (xfill F v 0 (wT0 0))) : C_T_play [.ref 0, .int m, .int t] w K := by
  have key : ∀ F v, v 0 8 = 0 → C_T_play [.ref 0, .int m, .int t] (xfill F v 0 (wT0 0)) K := by
    intro F v hv
    refine xM_go rfl 60 [] fun P hP => ?_
    refine xcall (sp_wouldBeHad0 rfl (by exact hv) _ _ ?_)
    refine br_c (fun e => ?_) (fun e => ?_)
    · exact h F (va_up v 0 (va_up (va_up (v 0) 9 (-1)) 10 (v 0 10 + 1))) hv
    · exact absurd (by show v 0 8 ≤ 0; rw [hv]; decide) e
  rw [xsame_fill hw]
  exact key _ _ hc
theorem sp_draw0 {w : xW} (hw : xsame (wT0 0) w = true) (hc : xobjs w 0 8 = 0) {K : xKo} (h : ∀ r F v, v 0 8 = 0 → K (some (.int r)) (xfill F v 0 (wT0 0))) : C_T_draw [.ref 0] w K := by
  have key : ∀ F v, v 0 8 = 0 → C_T_draw [.ref 0] (xfill F v 0 (wT0 0)) K := by
    intro F v hv
    refine xM_go rfl 60 [] fun P hP => ?_
    exact h _ F (va_up v 0 (va_up (v 0) 11 (v 0 11 * 1103515245 + 12345))) hv
  rw [xsame_fill hw]
  exact key _ _ hc
theorem sp_copyRow (f g : Nat → Int32) (n : Nat) (hn : n ≤ 50) {K : xKo} (h : K none [.inl (n, f), .inl (n, va_cpy f g 0 0 n)]) : C_T_copyRow [.ref 0, .ref 1] [.inl (n, f), .inl (n, g)] K := by
  refine xM_go rfl 60 [] fun P hP => ?_
  refine xcall (sp_min _ _ ?_)
  have e : (if Int32.ofNat n ≤ Int32.ofNat n then Int32.ofNat n else Int32.ofNat n) = nI n := ite_self _
  have e1 : (nI n).toNatClampNeg = n := nI_clamp (by omega)
  have e0 : (0 : Int32).toNatClampNeg = 0 := by decide
  rw [e]
  refine ⟨⟨by decide, by decide, nI_pos (by omega), by rw [e1, e0]; omega, by rw [e1, e0]; omega⟩, ?_⟩
  rw [e1]
  exact h
theorem sp_adopt (F : Nat → Nat → Int32) (v : Nat → Nat → Int32) (g : Nat → Int32) (n : Nat) (hn : n ≤ 50) {s : Int32} (hs : s = nI n) {K : xKo} (h : K none (xfill (va_up F 1 (va_cpy g (F 1) 0 0 n)) (va_up v 0 (va_up (v 0) 1 (nI n))) 0 (wL0 0) ++ [.inl (50, g)])) : C_L_adopt [.ref 0, .ref 3, .int s] (xfill F v 0 (wL0 0) ++ [.inl (50, g)]) K := by
  subst hs
  refine xM_go rfl 60 [] fun P hP => ?_
  refine xcall (sp_min _ _ ?_)
  refine xcall (sp_min _ _ ?_)
  have e : (if nI n ≤ (if Int32.ofNat 50 ≤ Int32.ofNat 50 then Int32.ofNat 50 else Int32.ofNat 50) then nI n else (if Int32.ofNat 50 ≤ Int32.ofNat 50 then Int32.ofNat 50 else Int32.ofNat 50)) = nI n := by
    rw [ite_self]
    exact if_pos (nI_le hn (by decide))
  have e1 : (nI n).toNatClampNeg = n := nI_clamp (by omega)
  have e0 : (0 : Int32).toNatClampNeg = 0 := by decide
  rw [e]
  refine ⟨⟨by decide, by decide, nI_pos (by omega), by rw [e1, e0]; omega, by rw [e1, e0]; omega⟩, ?_⟩
  rw [e1]
  exact h
/-- a street's picture copied into another's: the laws' codes up to their sizes -/
def cpF (F : Nat → Nat → Int32) (n0 n1 : Nat) : Nat → Nat → Int32 := fun k => match k with
  | 1 => va_cpy (F 19) (F 1) 0 0 8
  | 2 => va_cpy (F 20) (F 2) 0 0 8
  | 3 => va_cpy (F 21) (F 3) 0 0 7
  | 4 => va_cpy (F 22) (F 4) 0 0 7
  | 5 => va_cpy (F 23) (F 5) 0 0 7
  | 6 => va_cpy (F 24) (F 6) 0 0 7
  | 7 => va_cpy (F 25) (F 7) 0 0 7
  | 10 => va_cpy (F 28) (F 10) 0 0 n0
  | 13 => va_cpy (F 31) (F 13) 0 0 n1
  | 15 => va_cpy (F 33) (F 15) 0 0 50
  | 16 => va_cpy (F 34) (F 16) 0 0 20
  | k => F k
def cpV (v : Nat → Nat → Int32) (n0 n1 : Nat) : Nat → Nat → Int32 := fun k => match k with
  | 0 => v 18
  | 9 => va_up (v 9) 1 (nI n0)
  | 12 => va_up (v 12) 1 (nI n1)
  | k => v k
set_option maxRecDepth 100000 in
theorem sp_copy (F : Nat → Nat → Int32) (v : Nat → Nat → Int32) (n0 n1 : Nat) (h0 : n0 ≤ 50) (h1 : n1 ≤ 50) (e0 : v 27 1 = nI n0) (e1 : v 30 1 = nI n1) {K : xKo} (h : K none (xfill (cpF F n0 n1) (cpV v n0 n1) 0 (wT0 0 ++ wT0 18))) : C_T_copy [.ref 0, .ref 18] (xfill F v 0 (wT0 0 ++ wT0 18)) K := by
  refine xM_go rfl 200 [] fun P hP => ?_
  refine xcall (sp_copyRow (F 19) (F 1) 8 (by decide) ?_)
  refine xcall (sp_copyRow (F 20) (F 2) 8 (by decide) ?_)
  refine xcall (sp_copyRow (F 21) (F 3) 7 (by decide) ?_)
  refine xcall (sp_copyRow (F 22) (F 4) 7 (by decide) ?_)
  refine xcall (sp_copyRow (F 23) (F 5) 7 (by decide) ?_)
  refine xcall (sp_copyRow (F 24) (F 6) 7 (by decide) ?_)
  refine xcall (sp_copyRow (F 25) (F 7) 7 (by decide) ?_)
  refine br_c (fun a => absurd a (by decide)) (fun _ => ?_)
  refine ⟨vin (by decide), ⟨fun _ => ?_, ⟨fun a => absurd a (by decide), trivial⟩⟩⟩
  refine ⟨vin (by decide), ⟨fun _ => ?_, ⟨fun a => absurd a (by decide), trivial⟩⟩⟩
  refine ⟨vin (by decide), ⟨fun _ => ?_, ⟨fun a => absurd a (by decide), trivial⟩⟩⟩
  refine xcall (sp_adopt (fun k => F (9 + k)) (fun k => v (9 + k)) (F 28) n0 h0 e0 ?_)
  refine br_c (fun a => absurd a (by decide)) (fun _ => ?_)
  refine ⟨vin (by decide), ⟨fun a => absurd a (by decide), ⟨fun _ => ?_, trivial⟩⟩⟩
  refine ⟨vin (by decide), ⟨fun a => absurd a (by decide), ⟨fun _ => ?_, trivial⟩⟩⟩
  refine ⟨vin (by decide), ⟨fun a => absurd a (by decide), ⟨fun _ => ?_, trivial⟩⟩⟩
  refine xcall (sp_adopt (fun k => F (12 + k)) (fun k => v (12 + k)) (F 31) n1 h1 e1 ?_)
  refine br_c (fun _ => ?_) (fun a => absurd (by decide) a)
  refine xcall (sp_copyRow (F 33) (F 15) 50 (by decide) ?_)
  refine xcall (sp_copyRow (F 34) (F 16) 20 (by decide) ?_)
  exact h
