/-! ===== a new object: the constructors, and one call each ===== -/
theorem xgenK {w0 w' : xW} {K : xKo} {r : Option Value} (h : ∀ F v, K r (xfill F v 0 w0)) (hs : xsame w0 w' = true) : K r w' := by
  rw [xsame_fill hs]
  exact h _ _
theorem xshape {w0 w' : xW} (hs : xsame w0 w' = true) : ∃ F v, w' = xfill F v 0 w0 := ⟨_, _, xsame_fill hs⟩
theorem vin {i : Int32} {n : Nat} (h : 0 ≤ i.toInt ∧ i.toInt < n) : vp_in i n := vp_in_iff.mpr h
theorem sp_R_init (K : xKo) (h : K none (wR0 0)) : C_R_init [.ref 0] [.inr (.inr (1, [.null, .int 0, .null, .int 0, .int 0, .int 0, .int 0]))] K := by
  refine xM_go rfl 40 [] fun P hP => ?_
  refine ⟨rfl, ?_⟩
  refine ⟨rfl, ?_⟩
  exact h
theorem sp_S_init (K : xKo) (h : K none (wS0 0)) : C_S_init [.ref 0] [.inr (.inr (2, [.null, .int 0, .int 0]))] K := by
  refine xM_go rfl 40 [] fun P hP => ?_
  refine ⟨rfl, ?_⟩
  exact h
theorem sp_P_init (K : xKo) (h : K none (wP0 0)) : C_P_init [.ref 0] [.inr (.inr (3, [.null, .int 0, .int 0, .int 0, .int 0]))] K := by
  refine xM_go rfl 40 [] fun P hP => ?_
  refine ⟨rfl, ?_⟩
  exact h
theorem sp_T_init (K : xKo) (h : K none (wT0 0)) : C_T_init [.ref 0] [.inr (.inr (4, [.null, .null, .int 0, .null, .null, .null, .null, .null, .int 0, .int 0, .int 0, .int 0, .null, .null, .int 0, .null, .int 0, .null]))] K := by
  refine xM_go rfl 100 [] fun P hP => ?_
  repeat refine ⟨rfl, ?_⟩
  refine xcall (sp_L_init 0 0 _ ?_)
  refine ⟨rfl, ?_⟩
  refine xcall (sp_L_init 0 0 _ ?_)
  repeat refine ⟨rfl, ?_⟩
  exact h
set_option maxRecDepth 100000 in
theorem sp_H_init (K : xKo) (h : K none wH0) : C_H_init [.ref 0] [.inr (.inr (5, [.null, .null, .null, .null, .null, .null, .null, .int 0]))] K := by
  refine xM_go rfl 100 [] fun P hP => ?_
  refine xcall (sp_T_init _ ?_)
  refine xcall (sp_T_init _ ?_)
  refine xcall (sp_T_init _ ?_)
  refine xcall (sp_R_init _ ?_)
  refine xcall (sp_P_init _ ?_)
  refine ⟨rfl, ?_⟩
  refine xcall (sp_S_init _ ?_)
  refine ⟨rfl, ?_⟩
  refine xcall (sp_S_init _ ?_)
  refine ⟨rfl, ?_⟩
  refine xcall (sp_S_init _ ?_)
  refine ⟨rfl, ?_⟩
  refine xcall (sp_S_init _ ?_)
  repeat refine ⟨rfl, ?_⟩
  exact h
theorem x_row0 : upd (upd (upd (upd (fun _ => 0) (Int32.toNatClampNeg 1) 1) (Int32.toNatClampNeg 8) (-1)) (Int32.toNatClampNeg 6) (-1)) (Int32.toNatClampNeg (6 + 1)) (-1) = xrow0 := by
  funext j
  match j with
  | 0 => rfl
  | 1 => rfl
  | 2 => rfl
  | 3 => rfl
  | 4 => rfl
  | 5 => rfl
  | 6 => rfl
  | 7 => rfl
  | 8 => rfl
  | j + 9 =>
    have e1 : Int32.toNatClampNeg 1 = 1 := by decide
    have e2 : Int32.toNatClampNeg 8 = 8 := by decide
    have e3 : Int32.toNatClampNeg 6 = 6 := by decide
    have e4 : Int32.toNatClampNeg (6 + 1) = 7 := by decide
    rw [e1, e2, e3, e4]
    simp [upd, xrow0]
theorem sp_M_init (K : xKo) (h : K none (wM0 0)) : C_M_init [.ref 0] [.inr (.inr (6, [.null, .null, .null, .null, .int 0, .int 0, .null, .int 0, .int 0, .int 0, .int 0, .int 0, .int 0, .int 0, .int 0, .int 0, .null, .null, .null, .null, .null, .int 0, .int 0, .int 0, .int 0]))] K := by
  refine xM_go rfl 100 [] fun P hP => ?_
  repeat refine ⟨rfl, ?_⟩
  refine ⟨vin (by decide), ?_⟩
  refine ⟨vin (by decide), ?_⟩
  refine ⟨vin (by decide), ?_⟩
  refine ⟨vin (by decide), ?_⟩
  unfold wM0 at h
  rw [← x_row0] at h
  exact h
theorem sp_error {w : xW} (hw : xsame wH0 w = true) (k : Int32) (hk : 0 ≤ k.toInt ∧ k.toInt < 6) {K : xKo} (h : ∀ F v, K (some (.int (-1000000000 - k))) (xfill F v 0 wH0)) : C_H_error [.ref 0, .int k] w K := by
  obtain ⟨F, v, rfl⟩ := xshape hw
  refine xM_go rfl 40 [] fun P hP => ?_
  refine ⟨vin hk, ?_⟩
  refine ⟨vin hk, ?_⟩
  exact xgenK h rfl
theorem sp_addThing0 (c m : Int32) {K : xKo} (h : ∀ F v, K (some (.int 0)) (xfill F v 0 (wT0 0))) : C_T_addThing [.ref 0, .int c, .int m] (wT0 0) K := by
  refine xM_go rfl 40 [] fun P hP => ?_
  refine ⟨vin (by decide), ?_⟩
  refine ⟨vin (by decide), ?_⟩
  exact xgenK h rfl
