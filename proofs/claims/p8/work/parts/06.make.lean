/-! ===== making cells; the ends of methods; arraycopy ===== -/
theorem x_beqT {a b : Nat} (h : Nat.ble a b = true) : a ≤ b := Nat.le_of_ble_eq_true h
theorem xok_spec {ls : xL} {st : List Value} {w : xW} (h : xok ls st w = true) : xokL w.length ls = true ∧ xokF w.length st = true ∧ xokW w.length w = true := by
  unfold xok at h
  rw [Bool.and_eq_true, Bool.and_eq_true] at h
  exact h
theorem x_gst {E : xE} {as : List Nat} {q : Nat} {st : List Value} {w : xW} (hlen : as.length = w.length) (e2 : xokF w.length st = true) : Value.ref q :: st.map (xcv E as) = (Value.ref w.length :: st).map (xcv E (as ++ [q])) := by
  rw [List.map_cons, xcvF_app (Nat.le_of_eq hlen.symm) e2]
  have e : xcv E (as ++ [q]) (Value.ref w.length) = Value.ref q := by
    show Value.ref _ = Value.ref _
    rw [List.getD_eq_getElem?_getD, ← hlen, List.getElem?_append_right (Nat.le_refl _), Nat.sub_self]
    rfl
  rw [e]
theorem x_gln {as : List Nat} {q : Nat} {w : xW} {c : xC} (hlen : as.length = w.length) : (as ++ [q]).length = (w ++ [c]).length := by
  rw [List.length_append, List.length_append, hlen]
  rfl
section OK3
variable {E : xE} {R : Room} {own : String} {cc : ByteArray} {nL : Nat} {rt : Option FieldType} {init : Bool}
theorem ok_new (pc : Nat) {mc ms ci index N : Nat} {fs : List Value} {Cn : String} {T : u_T} {ty0 : Nat → FieldType} (hc : vwCl[ci]? = some (Cn, T, N)) (hin : ∀ w ∈ u_ws Cn T N, w ∈ xT) (hty : ∀ k, k < N → parseFieldDescriptor (T k).2.2.1 = some (ty0 k)) (hcl : Cond.classLink own index Cn ∈ xT) (hinst : Cond.instantiable Cn N ∈ xT) (hini : Cond.initialized Cn ∈ xT) (hfs : ∀ j, j < N → defaultValue (ty0 j) = vp_V fs j) (hfm : ∀ as, fs.map (xcv E as) = fs) (hR : mc ≤ R.cells ∧ ms ≤ R.slots) : xOk E R own cc nL rt init (pc, .new index, 3, xs_new mc ms ci N fs) := by
  intro hd p l en s m args below meth c Q A as0 K C hR' ls st w b go h k
  unfold xs_new at h
  dsimp only at h
  split at h
  · next e =>
    obtain ⟨e1, e2, e3⟩ := xok_spec e
    obtain ⟨hb1, hb2, h⟩ := xbud_one h
    have h := xpush_spec h
    intro nw H locs la hbb hlen hP hD hS hl
    refine va_new C.1 C.2.1 C.2.2.2.2.1 hin ty0 hty C.2.2.2.1 (C.2.2.2.2.1 _ hcl) (C.2.2.2.2.1 _ hinst) (C.2.2.2.2.1 _ hini) C.2.2.2.2.2.1 hP hD hS C.2.2.2.2.2.2.2.1 hc (fs := fs) hfs (by omega) (by omega) hd (fun q H1 hP hD hS => ?_)
    have e4 : (as0 ++ (nw ++ [q])) = (as0 ++ nw) ++ [q] := (List.append_assoc _ _ _).symm
    have e5 := xG_push (E := E) (a := q) (c := .inr (.inr (ci, fs))) hlen e3
    have e6 : xce E ((as0 ++ nw) ++ [q]) (.inr (.inr (ci, fs))) = .inr (ci, fs) := congrArg (fun z : List Value => (Sum.inr (ci, z) : va_E)) (hfm _)
    rw [e6, ← e4] at e5
    have e7 : Value.ref q :: st.map (xcv E (as0 ++ nw)) = (Value.ref w.length :: st).map (xcv E (as0 ++ (nw ++ [q]))) := by
      rw [e4]; exact x_gst hlen e2
    rw [e7]
    refine k none _ _ _ _ h (nw ++ [q]) H1 locs la ⟨Nat.le_trans hb1 hR.1, Nat.le_trans hb2 hR.2⟩ ?_ (by rw [e5]; exact hP) (by rw [e5]; exact hD) hS ?_
    · rw [e4]; exact x_gln hlen
    · rw [e4, xlv_app (Nat.le_of_eq hlen.symm) e1]; exact hl
  · exact h.elim
theorem x_tys_I {E : xE} {s : State} {cA : ClassId} (hK : va_K E.1 vwCl (xtys E ++ [(cA, FieldType.int)]) s) : cA = E.2.1.1 := by
  have h1 := (hK.2 3 (cA, .int) rfl).2
  have h2 := (hK.2 0 (E.2.1.1, .int) rfl).2
  exact Option.some.inj (h1.symm.trans h2)
theorem ok_newa (pc : Nat) {mc ms N : Nat} (hac : Cond.arrayClass .int ∈ xT) (hN : N < 2 ^ 31) (hb8 : N * 4 ≤ 536870912) (hR : mc ≤ R.cells ∧ ms ≤ R.slots) : xOk E R own cc nL rt init (pc, .newarray .int, 2, xs_newa mc ms N) := by
  intro hd p l en s m args below meth c Q A as0 K C hR' ls st w b go h k
  unfold xs_newa at h
  dsimp only at h
  split at h
  · next i st' =>
    obtain ⟨rfl, h⟩ := h
    split at h
    · next e =>
      obtain ⟨e1, e2, e3⟩ := xok_spec e
      obtain ⟨hb1, hb2, h⟩ := xbud_one h
      have h := xpush_spec h
      intro nw H locs la hbb hlen hP hD hS hl
      refine va_newa (atype := .int) C.1 C.2.1 (C.2.2.2.2.1 _ hac) rfl C.2.2.2.2.2.1 hP hD hS C.2.2.2.2.2.2.2.1 (N' := N) (a0 := (N, .inl fun _ => 0)) (fun _ => rfl) (nI_pos hN) (nI_clamp hN) hb8 (by omega) (by omega) hd (fun q cA H1 hK hP hD hS => ?_)
      have hcA := x_tys_I hK
      subst hcA
      have e4 : (as0 ++ (nw ++ [q])) = (as0 ++ nw) ++ [q] := (List.append_assoc _ _ _).symm
      have e5 := xG_push (E := E) (a := q) (c := .inl (N, fun _ => 0)) hlen e3
      rw [← e4] at e5
      have e7 : Value.ref q :: st'.map (xcv E (as0 ++ nw)) = (Value.ref w.length :: st').map (xcv E (as0 ++ (nw ++ [q]))) := by
        rw [e4]; exact x_gst hlen e2
      rw [e7]
      refine k none _ _ _ _ h (nw ++ [q]) H1 locs la ⟨Nat.le_trans hb1 hR.1, Nat.le_trans hb2 hR.2⟩ ?_ (by rw [e5]; exact hP) (by rw [e5]; exact hD) hS ?_
      · rw [e4]; exact x_gln hlen
      · rw [e4, xlv_app (Nat.le_of_eq hlen.symm) e1]; exact hl
    · exact h.elim
  · exact h.elim
theorem x_tys_Q {E : xE} {s : State} {t : Nat} (ht : t = 0 ∨ t = 1) {cA : ClassId} (hK : va_K E.1 vwCl (xtys E ++ [(cA, FieldType.object (xQn t))]) s) : cA = xct E t := by
  rcases ht with rfl | rfl
  · obtain ⟨k1, c1, -, -, -, h1⟩ := (hK.2 3 (cA, _) rfl).2
    obtain ⟨k2, c2, -, -, -, h2⟩ := (hK.2 1 (E.2.1.2.1, _) rfl).2
    exact Option.some.inj (h1.symm.trans h2)
  · obtain ⟨k1, c1, -, -, -, h1⟩ := (hK.2 3 (cA, _) rfl).2
    obtain ⟨k2, c2, -, -, -, h2⟩ := (hK.2 2 (E.2.1.2.2, _) rfl).2
    exact Option.some.inj (h1.symm.trans h2)
theorem xqv_none (as : List Nat) (N : Nat) : xqv as (List.replicate N none) = fun _ => none := by
  funext j
  unfold xqv
  rw [List.getD_eq_getElem?_getD, List.getElem?_replicate]
  split <;> rfl
theorem ok_newq (pc : Nat) {mc ms t index N : Nat} (ht : t = 0 ∨ t = 1) (hcl : Cond.classLink own index (xQn t) ∈ xT) (hN : N < 2 ^ 31) (hb8 : N * 4 ≤ 536870912) (hR : mc ≤ R.cells ∧ ms ≤ R.slots) : xOk E R own cc nL rt init (pc, .anewarray index, 3, xs_newq mc ms t N) := by
  intro hd p l en s m args below meth c Q A as0 K C hR' ls st w b go h k
  unfold xs_newq at h
  dsimp only at h
  split at h
  · next i st' =>
    obtain ⟨rfl, h⟩ := h
    split at h
    · next e =>
      obtain ⟨e1, e2, e3⟩ := xok_spec e
      obtain ⟨hb1, hb2, h⟩ := xbud_one h
      have h := xpush_spec h
      have hAO : va_AO (xQn t) s := by
        rcases ht with rfl | rfl
        · exact C.2.2.2.2.2.2.1.2.2.2.2.2.1
        · exact C.2.2.2.2.2.2.1.2.2.2.2.2.2
      intro nw H locs la hbb hlen hP hD hS hl
      refine va_newq C.1 C.2.1 C.2.2.2.1 (C.2.2.2.2.1 _ hcl) hAO C.2.2.2.2.2.1 hP hD hS C.2.2.2.2.2.2.2.1 (N' := N) (nI_pos hN) (nI_clamp hN) hb8 (by omega) (by omega) hd (fun q cA H1 hK hP hD hS => ?_)
      have hcA := x_tys_Q ht hK
      subst hcA
      have e4 : (as0 ++ (nw ++ [q])) = (as0 ++ nw) ++ [q] := (List.append_assoc _ _ _).symm
      have e5 := xG_push (E := E) (a := q) (c := .inr (.inl (t, List.replicate N none))) hlen e3
      have e6 : xce E ((as0 ++ nw) ++ [q]) (.inr (.inl (t, List.replicate N none))) = .inl (xct E t, N, .inr (.inr (.inr (.inr (fun _ => none))))) := by
        show Sum.inl (_, (List.replicate N (none : Option Nat)).length, Sum.inr (Sum.inr (Sum.inr (Sum.inr (xqv _ (List.replicate N none)))))) = _
        rw [xqv_none, List.length_replicate]
      rw [e6, ← e4] at e5
      have e7 : Value.ref q :: st'.map (xcv E (as0 ++ nw)) = (Value.ref w.length :: st').map (xcv E (as0 ++ (nw ++ [q]))) := by
        rw [e4]; exact x_gst hlen e2
      rw [e7]
      refine k none _ _ _ _ h (nw ++ [q]) H1 locs la ⟨Nat.le_trans hb1 hR.1, Nat.le_trans hb2 hR.2⟩ ?_ (by rw [e5]; exact hP) (by rw [e5]; exact hD) hS ?_
      · rw [e4]; exact x_gln hlen
      · rw [e4, xlv_app (Nat.le_of_eq hlen.symm) e1]; exact hl
    · exact h.elim
  · exact h.elim
theorem x_sum {E : xE} {as : List Nat} (st : List Value) : ((st.map (xcv E as)).map fun v => v.category) = st.map fun v => v.category := by
  rw [List.map_map]
  exact List.map_congr_left fun v _ => xcv_cat E as v
theorem ok_obj (pc : Nat) {index : Nat} (hlink : Cond.methodLink own index Lib.objectInit ∈ xT) (hinst : Cond.instanceMethod Lib.objectInit ∈ xT) (hcode : Cond.code Lib.objectInit ⟨#[0xb1]⟩ 1 none ∈ xT) (hR : 1 ≤ R.frames ∧ 20 ≤ R.locals) : xOk E R own cc nL rt init (pc, .invokespecial index, 3, xs_obj) := by
  intro hd p l en s m args below meth c Q A as0 K C hR' ls st w b go h k
  unfold xs_obj at h
  dsimp only at h
  split at h
  · next q st' =>
    split at h
    · next e =>
      have e := x_beqT e
      intro nw H locs la hbb hlen hP hD hS hl
      refine W.objInit C.1 C.2.1 C.2.2.2.1 (C.2.2.2.2.1 _ hlink) (C.2.2.2.2.1 _ hinst) (C.2.2.2.2.1 _ hcode) rfl (by rw [C.2.2.1]; exact hl.1) rfl hd hR.1 ?_ ?_
      · show 2 * 0 + ((List.map (xcv E (as0 ++ nw)) st').map fun v => v.category).sum + 12 ≤ R.locals
        rw [x_sum]
        omega
      · exact k none _ _ _ _ h nw H locs la hbb hlen hP hD hS hl
    · exact h.elim
  · exact h.elim
theorem ok_acopy (pc : Nat) {index : Nat} (hlink : Cond.methodLink own index arraycopyName ∈ xT) (hnat : Cond.native arraycopyName ∈ xT) (hstat : Cond.static arraycopyName ∈ xT) (hini : Cond.initialized "java/lang/System" ∈ xT) (hR : 1 ≤ R.frames ∧ 8 + (nativeFrameWords "java/lang/System" "arraycopy" 5 + 11) ≤ R.locals) : xOk E R own cc nL rt init (pc, .invokestatic index, 3, xs_acopy) := by
  intro hd p l en s m args below meth c Q A as0 K C hR' ls st w b go h k
  unfold xs_acopy at h
  dsimp only at h
  split at h
  · next n dp q1 sp q0 st' =>
    split at h
    · next e =>
      have e := x_beqT e
      obtain ⟨c0, hc0, h1⟩ := xrd_spec h
      clear h
      split at h1
      · next n0 f =>
        obtain ⟨c1, hc1, h2⟩ := xrd_spec h1
        clear h1
        split at h2
        · next n1 g =>
          obtain ⟨⟨z1, z2, z3, z4, z5⟩, h3⟩ := h2
          obtain ⟨hq, h⟩ := xwr_spec h3
          intro nw H locs la hbb hlen hP hD hS hl
          refine va_copyi C.1 C.2.1 (by rw [C.2.2.1]; exact hl.1.symm) C.2.2.2.1 (C.2.2.2.2.1 _ hlink) (C.2.2.2.2.1 _ hnat) (C.2.2.2.2.1 _ hstat) (C.2.2.2.2.1 _ hini) C.2.2.2.2.2.1 hP hD hS q0 q1 0 0 (ty := .int) (xG_get (E := E) hlen hc0) (xG_get (E := E) hlen hc1) rfl rfl rfl z1 z2 z3 z4 z5 (fun _ _ => rfl) hR.1 ?_ hd (fun H1 locs1 hP hD hS => ?_)
          · rw [x_sum]; omega
          · have e := xG_set (E := E) (c := .inl (n1, va_cpy f g sp.toNatClampNeg dp.toNatClampNeg n.toNatClampNeg)) hlen hq
            exact k none _ _ _ _ h nw H1 locs1 la hbb (by rw [x_wlen]; exact hlen) (by rw [← e]; exact hP) (by rw [← e]; exact hD) hS hl
        · exact h2.elim
      · exact h1.elim
    · exact h.elim
  · exact h.elim
theorem ok_iret (pc : Nat) {z : Bool} (hz : rt = some (match z with | true => .boolean | false => .int)) : xOk E R own cc nL rt init (pc, .ireturn, 1, xs_iret z) := by
  intro hd p l en s m args below meth c Q A as0 K C hR ls st w b go h k
  unfold xs_iret at h
  dsimp only at h
  split at h
  · next v =>
    split at h
    · exact (hR pc ls w b).1 v .boolean hd hz (by rcases h.1 with rfl | rfl <;> rfl) h.2
    · exact (hR pc ls w b).1 v .int hd hz rfl h
  · exact h.elim
theorem ok_aret (pc : Nat) (hz : rt = some (.array .int)) : xOk E R own cc nL rt init (pc, .areturn, 1, xs_aret) := by
  intro hd p l en s m args below meth c Q A as0 K C hR ls st w b go h k
  unfold xs_aret at h
  dsimp only at h
  split at h
  · next v => exact (hR pc ls w b).2.1 v hd hz h
  · exact h.elim
theorem ok_ret (pc : Nat) (hz : rt = none) : xOk E R own cc nL rt init (pc, .return_, 1, xs_ret) := by
  intro hd p l en s m args below meth c Q A as0 K C hR ls st w b go h k
  unfold xs_ret at h
  dsimp only at h
  split at h
  · exact (hR pc ls w b).2.2 hd hz h
  · exact h.elim
end OK3
