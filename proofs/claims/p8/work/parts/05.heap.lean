/-! ===== fields, arrays, tables, making, returning ===== -/
def xQn (t : Nat) : String := match t with
  | 0 => "HomeCalls$Law"
  | _ => "HomeCalls$Sheet"
section OK2
variable {E : xE} {R : Room} {own : String} {cc : ByteArray} {nL : Nat} {rt : Option FieldType} {init : Bool}
theorem ok_gf (pc : Nat) {ci k0 index N : Nat} {Cn : String} {T : u_T} (hc : vwCl[ci]? = some (Cn, T, N)) (hin : ∀ w ∈ u_ws Cn T N, w ∈ xT) (hk : k0 < N) (hlink : Cond.fieldLink own index (T k0).1 (T k0).2.1 (T k0).2.2.1 ∈ xT) : xOk E R own cc nL rt init (pc, .getfield index, 3, xs_gf ci k0) := by
  intro hd p l en s m args below meth c Q A as0 K C hR ls st w b go h k
  unfold xs_gf at h
  dsimp only at h
  split at h
  · next q st' =>
    obtain ⟨cl, hcl, h1⟩ := xrd_spec h
    clear h
    split at h1
    · next cj fs =>
      split at h1
      · next e =>
        have e := xbeq e
        subst e
        obtain ⟨v, hv, h⟩ := xfg_spec h1
        intro nw H locs la hbb hlen hP hD hS hl
        have he := xG_get (E := E) hlen hcl
        exact va_get C.1 C.2.1 C.2.2.2.2.1 hin C.2.2.2.1 C.2.2.2.2.2.1 hP q he hc k0 hk (C.2.2.2.2.1 _ hlink) (fun _ h => h) (v := xcv E (as0 ++ nw) v) (by rw [List.getElem?_map, hv]; rfl) hd (k none _ _ _ _ h nw H locs la hbb hlen hP hD hS hl)
      · exact h1.elim
    · exact h1.elim
  · exact h.elim
theorem x_fset {E : xE} {as : List Nat} {w : xW} {q ci k0 : Nat} {fs : List Value} {v v' : Value} (hv : xcv E as v = v') (hl : as.length = w.length) (hq : q < w.length) : (xG E as w).set q (as.getD q 0, .inr (ci, (fs.map (xcv E as)).set k0 v')) = xG E as (w.set q (.inr (.inr (ci, fs.set k0 v)))) := by
  rw [← xG_set hl hq, ← hv, ← List.map_set]
  rfl
theorem x_wlen {w : xW} {q : Nat} {c : xC} : (w.set q c).length = w.length := List.length_set
theorem ok_pf (pc : Nat) {z : Bool} {ci k0 index N : Nat} {Cn : String} {T : u_T} {ty0 : Nat → FieldType} (hc : vwCl[ci]? = some (Cn, T, N)) (hin : ∀ w ∈ u_ws Cn T N, w ∈ xT) (hty : ∀ k, k < N → parseFieldDescriptor (T k).2.2.1 = some (ty0 k)) (hnm : ∀ a, a < N → ∀ b, b < N → a ≠ b → (T a).2.1 ≠ (T b).2.1) (hk : k0 < N) (hlink : Cond.fieldLink own index (T k0).1 (T k0).2.1 (T k0).2.2.1 ∈ xT)
    (hfin : (T k0).2.2.2 = false) (hz : ty0 k0 = match z with | true => .boolean | false => .int) : xOk E R own cc nL rt init (pc, .putfield index, 3, xs_pf z ci k0) := by
  intro hd p l en s m args below meth c Q A as0 K C hR ls st w b go h k
  unfold xs_pf at h
  dsimp only at h
  split at h
  · next n q st' =>
    obtain ⟨cl, hcl, h1⟩ := xrd_spec h
    clear h
    split at h1
    · next cj fs =>
      split at h1
      · next e =>
        have e := xbeq e
        subst e
        obtain ⟨hl0, h2⟩ := xfs_spec h1
        obtain ⟨hq, h⟩ := xwr_spec h2
        intro nw H locs la hbb hlen hP hD hS hl
        have he := xG_get (E := E) hlen hcl
        have hf : narrow (ty0 k0) (.int n) = .int n ∧ fits (ty0 k0) (.int n) = true ∧ go none ls st' (w.set q (.inr (.inr (cj, fs.set k0 (.int n))))) b := by
          rw [hz]
          cases z with
          | true => rcases h with ⟨rfl | rfl, h⟩ <;> exact ⟨rfl, rfl, h⟩
          | false => exact ⟨rfl, rfl, h⟩
        refine va_put C.1 C.2.1 C.2.2.2.2.1 hin ty0 hty hnm C.2.2.2.1 C.2.2.2.2.2.1 hP hD hS q he hc k0 hk (C.2.2.2.2.1 _ hlink) (fun _ h => h) hfin (hty k0 hk) hf.1 hf.2.1 (by rw [List.length_map]; exact hl0) hd (fun H1 locs1 hP hD hS => ?_)
        rw [x_fset (E := E) (ci := cj) (k0 := k0) (fs := fs) (v := .int n) (v' := xcv E (as0 ++ nw) (.int n)) rfl hlen hq] at hP hD
        exact k none _ _ _ _ hf.2.2 nw H1 locs1 la hbb (by rw [x_wlen]; exact hlen) hP hD hS hl
      · exact h1.elim
    · exact h1.elim
  · exact h.elim
theorem ok_pfr (pc : Nat) {ci k0 index N : Nat} {Cn : String} {T : u_T} {ty0 : Nat → FieldType} (hc : vwCl[ci]? = some (Cn, T, N)) (hin : ∀ w ∈ u_ws Cn T N, w ∈ xT) (hty : ∀ k, k < N → parseFieldDescriptor (T k).2.2.1 = some (ty0 k)) (hnm : ∀ a, a < N → ∀ b, b < N → a ≠ b → (T a).2.1 ≠ (T b).2.1) (hk : k0 < N) (hlink : Cond.fieldLink own index (T k0).1 (T k0).2.1 (T k0).2.2.1 ∈ xT)
    (hfin : (T k0).2.2.2 = true) (hini : init = true) (hdecl : (T k0).1 = own) (hz : ∀ a : Nat, narrow (ty0 k0) (.ref a) = .ref a ∧ fits (ty0 k0) (.ref a) = true) : xOk E R own cc nL rt init (pc, .putfield index, 3, xs_pfr ci k0) := by
  intro hd p l en s m args below meth c Q A as0 K C hR ls st w b go h k
  unfold xs_pfr at h
  dsimp only at h
  split at h
  · next n q st' =>
    obtain ⟨cl, hcl, h1⟩ := xrd_spec h
    clear h
    split at h1
    · next cj fs =>
      split at h1
      · next e =>
        have e := xbeq e
        subst e
        obtain ⟨hl0, h2⟩ := xfs_spec h1
        obtain ⟨hq, h⟩ := xwr_spec h2
        intro nw H locs la hbb hlen hP hD hS hl
        have he := xG_get (E := E) hlen hcl
        refine va_putF C.1 C.2.1 C.2.2.2.2.1 hin ty0 hty hnm C.2.2.2.1 C.2.2.2.2.2.1 hP hD hS q he hc k0 hk (C.2.2.2.2.1 _ hlink) (fun _ h => h) hfin (C.2.2.2.2.2.2.2.2 hini) hdecl (hty k0 hk) (v := .ref ((as0 ++ nw).getD n 0)) (hz _).1 (hz _).2 (by rw [List.length_map]; exact hl0) hd (fun H1 locs1 hP hD hS => ?_)
        rw [x_fset (E := E) (ci := cj) (k0 := k0) (fs := fs) (v := .ref n) (v' := .ref ((as0 ++ nw).getD n 0)) rfl hlen hq] at hP hD
        exact k none _ _ _ _ h nw H1 locs1 la hbb (by rw [x_wlen]; exact hlen) hP hD hS hl
      · exact h1.elim
    · exact h1.elim
  · exact h.elim
theorem ok_gs0 (pc : Nat) {index : Nat} (hlink : Cond.fieldLink own index "HomeCalls" "IS" "[I" ∈ xT) : xOk E R own cc nL rt init (pc, .getstatic index, 3, xs_push (.float 0)) := by
  intro hd p l en s m args below meth c Q A as0 K C hR ls st w b go h k
  intro nw H locs la hbb hlen hP hD hS hl
  exact va_gets C.1 C.2.1 C.2.2.2.2.2.2.1.2.1 hS C.2.2.2.1 (C.2.2.2.2.1 _ hlink) (fun _ h => h) hd (k none _ _ _ _ h nw H locs la hbb hlen hP hD hS hl)
theorem ok_gs1 (pc : Nat) {index : Nat} (hlink : Cond.fieldLink own index "HomeCalls$Reader" "NAMES_OF_USES" "[C" ∈ xT) : xOk E R own cc nL rt init (pc, .getstatic index, 3, xs_push (.float 1)) := by
  intro hd p l en s m args below meth c Q A as0 K C hR ls st w b go h k
  intro nw H locs la hbb hlen hP hD hS hl
  exact va_gets C.1 C.2.1 C.2.2.2.2.2.2.1.2.2.1 hS C.2.2.2.1 (C.2.2.2.2.1 _ hlink) (fun _ h => h) hd (k none _ _ _ _ h nw H locs la hbb hlen hP hD hS hl)
theorem ok_gs2 (pc : Nat) {index : Nat} (hlink : Cond.fieldLink own index "HomeCalls$Speaker" "BODIES" "[I" ∈ xT) : xOk E R own cc nL rt init (pc, .getstatic index, 3, xs_push (.float 2)) := by
  intro hd p l en s m args below meth c Q A as0 K C hR ls st w b go h k
  intro nw H locs la hbb hlen hP hD hS hl
  exact va_gets C.1 C.2.1 C.2.2.2.2.2.2.1.2.2.2.1 hS C.2.2.2.1 (C.2.2.2.2.1 _ hlink) (fun _ h => h) hd (k none _ _ _ _ h nw H locs la hbb hlen hP hD hS hl)
theorem ok_tldi (pc : Nat) {j : UInt32} {N : Nat} {f : Nat → Int32} (hm : (j, FieldType.int, N, f) ∈ xtb E) : xOk E R own cc nL rt init (pc, .iaload, 1, xs_tld j N f) := by
  intro hd p l en s m args below meth c Q A as0 K C hR ls st w b go h k
  unfold xs_tld at h
  dsimp only at h
  split at h
  · next i t st' =>
    obtain ⟨rfl, hin, h⟩ := h
    intro nw H locs la hbb hlen hP hD hS hl
    exact va_ti C.1 C.2.1 (C.2.2.2.2.2.2.1.1 _ hm) hS hin rfl hd (k none _ _ _ _ h nw H locs la hbb hlen hP hD hS hl)
  · exact h.elim
theorem ok_tldc (pc : Nat) {j : UInt32} {N : Nat} {f : Nat → Int32} (hm : (j, FieldType.char, N, f) ∈ xtb E) : xOk E R own cc nL rt init (pc, .caload, 1, xs_tld j N f) := by
  intro hd p l en s m args below meth c Q A as0 K C hR ls st w b go h k
  unfold xs_tld at h
  dsimp only at h
  split at h
  · next i t st' =>
    obtain ⟨rfl, hin, h⟩ := h
    intro nw H locs la hbb hlen hP hD hS hl
    exact va_tc C.1 C.2.1 (C.2.2.2.2.2.2.1.1 _ hm) hS hin rfl hd (k none _ _ _ _ h nw H locs la hbb hlen hP hD hS hl)
  · exact h.elim
theorem ok_tlen (pc : Nat) {j : UInt32} {N : Nat} {f : Nat → Int32} (hm : (j, FieldType.int, N, f) ∈ xtb E) : xOk E R own cc nL rt init (pc, .arraylength, 1, xs_tlen j N) := by
  intro hd p l en s m args below meth c Q A as0 K C hR ls st w b go h k
  unfold xs_tlen at h
  dsimp only at h
  split at h
  · next t st' =>
    obtain ⟨rfl, h⟩ := h
    intro nw H locs la hbb hlen hP hD hS hl
    exact va_tlen C.1 C.2.1 (C.2.2.2.2.2.2.1.1 _ hm) hS rfl hd (k none _ _ _ _ h nw H locs la hbb hlen hP hD hS hl)
  · exact h.elim
theorem ok_iald (pc : Nat) : xOk E R own cc nL rt init (pc, .iaload, 1, xs_iald) := by
  intro hd p l en s m args below meth c Q A as0 K C hR ls st w b go h k
  unfold xs_iald at h
  dsimp only at h
  split at h
  · next i q st' =>
    obtain ⟨cl, hcl, h1⟩ := xrd_spec h
    clear h
    split at h1
    · next n f =>
      intro nw H locs la hbb hlen hP hD hS hl
      exact va_iald C.1 C.2.1 C.2.2.2.2.2.1 hP q 0 (xG_get (E := E) hlen hcl) rfl h1.1 hd (k none _ _ _ _ h1.2 nw H locs la hbb hlen hP hD hS hl)
    · exact h1.elim
  · exact h.elim
theorem ok_iast (pc : Nat) : xOk E R own cc nL rt init (pc, .iastore, 1, xs_iast) := by
  intro hd p l en s m args below meth c Q A as0 K C hR ls st w b go h k
  unfold xs_iast at h
  dsimp only at h
  split at h
  · next v i q st' =>
    obtain ⟨cl, hcl, h1⟩ := xrd_spec h
    clear h
    split at h1
    · next n f =>
      obtain ⟨hq, h2⟩ := xwr_spec h1.2
      intro nw H locs la hbb hlen hP hD hS hl
      refine va_iast C.1 C.2.1 C.2.2.2.2.2.1 hP hD hS q 0 (xG_get (E := E) hlen hcl) rfl h1.1 hd (fun H1 locs1 hP hD hS => ?_)
      have e := xG_set (E := E) (c := .inl (n, upd f i.toNatClampNeg v)) hlen hq
      exact k none _ _ _ _ h2 nw H1 locs1 la hbb (by rw [x_wlen]; exact hlen) (by rw [← e]; exact hP) (by rw [← e]; exact hD) hS hl
    · exact h1.elim
  · exact h.elim
theorem ok_alen (pc : Nat) : xOk E R own cc nL rt init (pc, .arraylength, 1, xs_alen) := by
  intro hd p l en s m args below meth c Q A as0 K C hR ls st w b go h k
  unfold xs_alen at h
  dsimp only at h
  split at h
  · next q st' =>
    obtain ⟨cl, hcl, h1⟩ := xrd_spec h
    clear h
    split at h1
    · next n f =>
      intro nw H locs la hbb hlen hP hD hS hl
      exact va_alen C.1 C.2.1 C.2.2.2.2.2.1 hP q 0 (xG_get (E := E) hlen hcl) (ty := .int) rfl rfl hd (k none _ _ _ _ h1 nw H locs la hbb hlen hP hD hS hl)
    · exact h1.elim
  · exact h.elim
theorem x_tyq {E : xE} {t : Nat} (ht : t = 0 ∨ t = 1) : ∃ (t0 : Nat) (Cn : String), (xtys E)[t0]? = some (xct E t, .object Cn) ∧ Cn = (xQn t) := by
  rcases ht with rfl | rfl
  · exact ⟨1, _, rfl, rfl⟩
  · exact ⟨2, _, rfl, rfl⟩
theorem ok_aald (pc : Nat) {t : Nat} (ht : t = 0 ∨ t = 1) : xOk E R own cc nL rt init (pc, .aaload, 1, xs_aald t) := by
  intro hd p l en s m args below meth c Q A as0 K C hR ls st w b go h k
  unfold xs_aald at h
  dsimp only at h
  split at h
  · next i q st' =>
    obtain ⟨cl, hcl, h1⟩ := xrd_spec h
    clear h
    split at h1
    · next t' xs =>
      split at h1
      · next e =>
        have e := xbeq e
        subst e
        obtain ⟨hin, h⟩ := h1
        have hlt : i.toNatClampNeg < xs.length := Nat.not_le.mp fun z => hin (Or.inr z)
        have h0 : ¬ i < 0 := fun z => hin (Or.inl z)
        obtain ⟨j, hj, rfl⟩ := nI_of h0
        have hj2 : (nI j).toNatClampNeg = j := nI_clamp hj
        rw [hj2] at hlt
        obtain ⟨a, ha, h⟩ := xaa_spec h j hlt (by rw [Nat.zero_add]; rfl)
        obtain ⟨t0, Cn, ht0, -⟩ := x_tyq (E := E) ht
        intro nw H locs la hbb hlen hP hD hS hl
        refine va_aldq C.1 C.2.1 C.2.2.2.2.2.1 hP q t0 (xG_get (E := E) hlen hcl) ht0 hin hd ?_
        have e2 : va_rf (xqv (as0 ++ nw) xs (nI j).toNatClampNeg) = xcv E (as0 ++ nw) (.ref a) := by
          rw [hj2]
          unfold xqv
          rw [List.getD_eq_getElem?_getD, ha]
          rfl
        rw [e2]
        exact k none _ _ _ _ h nw H locs la hbb hlen hP hD hS hl
      · exact h1.elim
    · exact h1.elim
  · exact h.elim
theorem ok_aast (pc : Nat) {t ci j : Nat} (ht : t = 0 ∨ t = 1) {r : vw_C} (hc : vwCl[ci]? = some r) (hr : r.1 = (xQn t)) (hj : j < 2 ^ 31) : xOk E R own cc nL rt init (pc, .aastore, 1, xs_aast t ci j) := by
  intro hd p l en s m args below meth c Q A as0 K C hR ls st w b go h k
  unfold xs_aast at h
  dsimp only at h
  split at h
  · next v i q st' =>
    obtain ⟨rfl, h0⟩ := h
    obtain ⟨cv, hcv, h1⟩ := xrd_spec h0
    clear h0
    split at h1
    · next cj fs =>
      split at h1
      · next e =>
        have e := xbeq e
        subst e
        obtain ⟨cl, hcl, h2⟩ := xrd_spec h1
        clear h1
        split at h2
        · next t' xs =>
          split at h2
          · next e =>
            have e := xbeq e
            subst e
            obtain ⟨hjl, h3⟩ := xqs_spec h2
            obtain ⟨hq, h⟩ := xwr_spec h3
            obtain ⟨t0, Cn, ht0, hCn⟩ := x_tyq (E := E) ht
            have hj2 : (nI j).toNatClampNeg = j := nI_clamp hj
            intro nw H locs la hbb hlen hP hD hS hl
            refine va_astq C.1 C.2.1 C.2.2.2.2.2.1 hP hD hS q t0 v cj (xG_get (E := E) hlen hcl) (by rw [ht0, hCn, hr]) (xG_get (E := E) hlen hcv) hc (i := nI j) (fun z => z.elim (fun z => nI_pos hj z) (fun z => absurd hjl (by rw [hj2] at z; omega))) hd (fun H1 locs1 hP hD hS => ?_)
            have e1 : va_up (xqv (as0 ++ nw) xs) (nI j).toNatClampNeg (some ((as0 ++ nw).getD v 0)) = xqv (as0 ++ nw) (xs.set j (some v)) := by
              rw [hj2]
              funext x
              unfold va_up xqv
              by_cases hx : x = j
              · subst hx
                have e5 : (xs.set x (some v)).getD x none = some v := by rw [List.getD_eq_getElem?_getD, List.getElem?_set_self hjl]; rfl
                rw [if_pos rfl, e5]
                rfl
              · have e5 : (xs.set j (some v)).getD x none = xs.getD x none := by rw [List.getD_eq_getElem?_getD, List.getD_eq_getElem?_getD, List.getElem?_set_ne (Ne.symm hx)]
                rw [if_neg hx, e5]
            have e := xG_set (E := E) (c := .inr (.inl (t', xs.set j (some v)))) hlen hq
            have e3 : xce E (as0 ++ nw) (.inr (.inl (t', xs.set j (some v)))) = .inl (xct E t', xs.length, .inr (.inr (.inr (.inr (va_up (xqv (as0 ++ nw) xs) (nI j).toNatClampNeg (some ((as0 ++ nw).getD v 0))))))) := by
              rw [e1]
              show Sum.inl (_, (xs.set j (some v)).length, _) = _
              rw [List.length_set]
            rw [e3] at e
            exact k none _ _ _ _ h nw H1 locs1 la hbb (by rw [x_wlen]; exact hlen) (by rw [← e]; exact hP) (by rw [← e]; exact hD) hS hl
          · exact h2.elim
        · exact h2.elim
      · exact h1.elim
    · exact h1.elim
  · exact h.elim
end OK2
