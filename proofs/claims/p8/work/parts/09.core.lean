/-! ===== a call in a run; the whole method ===== -/
theorem xokF_app {n : Nat} : ∀ {a b : List Value}, xokF n (a ++ b) = true → xokF n b = true
  | [], b, h => h
  | v :: a, b, h => by
    rw [List.cons_append] at h
    unfold xokF at h
    rw [Bool.and_eq_true] at h
    exact xokF_app h.2
section CORE
variable {E : xE} {R : Room} {own : String} {cc : ByteArray} {nL : Nat} {rt : Option FieldType} {init : Bool}
theorem x_sub {as pi : List Nat} {w lw : xW} (hlen : as.length = w.length) (hl : lw.length = pi.length) (hg : ∀ (j i : Nat), pi[j]? = some i → ∃ c c' : xC, w[i]? = some c ∧ lw[j]? = some c' ∧ ∀ (E : xE) (as : List Nat), xce E (xpm as pi) c' = xce E as c) {j : Nat} {x : Nat × va_E} (h : (xG E (xpm as pi) lw)[j]? = some x) : ∃ i, pi[j]? = some i ∧ (xG E as w)[i]? = some x := by
  obtain ⟨c', h1, h2, h3⟩ := xG_at h
  have hj : j < pi.length := by rw [← hl]; exact (List.getElem?_eq_some_iff.mp h1).1
  have hi := List.getElem?_eq_getElem hj
  obtain ⟨c, c2, g1, g2, g3⟩ := hg j _ hi
  cases g2.symm.trans h1
  exact ⟨_, hi, by rw [h3, xG_get hlen g1, g3, xpm_get hi]⟩
theorem x_nodup {l : List Nat} (h : l.Nodup) {i j a : Nat} (h1 : l[i]? = some a) (h2 : l[j]? = some a) : i = j := by
  obtain ⟨hi, e1⟩ := List.getElem?_eq_some_iff.mp h1
  obtain ⟨hj, e2⟩ := List.getElem?_eq_some_iff.mp h2
  exact (List.getElem_inj (xs := l) h).mp (e1.trans e2.symm)
/-- what a callee left, in its caller's world -/
theorem x_back {A : Nat → Prop} {H H1 : Heap} {as nw pi : List Nat} {w lw lw' w2 ex : xW} (hlen : as.length = w.length) (hl : lw.length = pi.length) (hnd : pi.Nodup) (hpl : ∀ a ∈ pi, a < w.length)
    (hg : ∀ (j i : Nat), pi[j]? = some i → ∃ c c' : xC, w[i]? = some c ∧ lw[j]? = some c' ∧ ∀ (E : xE) (as : List Nat), xce E (xpm as pi) c' = xce E as c)
    (hP : va_P E.1 vwCl (xG E as w) H) (hD : va_D A (xG E as w)) (hA : ∀ q, va_A (xG E (xpm as pi) lw) H.size q → A q)
    (hl' : (xpm as pi ++ nw).length = lw'.length) (hP1 : va_P E.1 vwCl (xG E (xpm as pi ++ nw) lw') H1) (hD1 : va_D (va_A (xG E (xpm as pi) lw) H.size) (xG E (xpm as pi ++ nw) lw')) (hk : ∀ q : Nat, q < H.size → ¬ va_A (xG E (xpm as pi) lw) H.size q → H1[q]? = H[q]?)
    (h2 : w2.length = w.length) (h3 : lw'.length = pi.length + ex.length) (s1 : ∀ (j i : Nat) (c : xC), pi[j]? = some i → lw'[j]? = some c → ∃ c' : xC, w2[i]? = some c' ∧ xUp w.length pi c c') (s2 : ∀ i : Nat, i ∉ pi → w2[i]? = w[i]?) (s3 : ∀ (j : Nat) (c : xC), lw'[pi.length + j]? = some c → ∃ c' : xC, ex[j]? = some c' ∧ xUp w.length pi c c')
    (hF : ∀ (k : Nat) (c : xC), w[k]? = some c → xce E (as ++ nw) c = xce E as c) :
    (as ++ nw).length = (w2 ++ ex).length ∧ va_P E.1 vwCl (xG E (as ++ nw) (w2 ++ ex)) H1 ∧ va_D A (xG E (as ++ nw) (w2 ++ ex)) := by
  have hpm : (xpm as pi).length = pi.length := List.length_map _
  have hnw : nw.length = ex.length := by
    rw [List.length_append, hpm, h3] at hl'
    omega
  have hlen2 : (as ++ nw).length = (w2 ++ ex).length := by rw [List.length_append, List.length_append, hlen, h2, hnw]
  -- an old place apart from the callee's is not the callee's to write
  have apart : ∀ (k : Nat) (x : Nat × va_E), (xG E as w)[k]? = some x → k ∉ pi → x.1 < H.size ∧ ¬ va_A (xG E (xpm as pi) lw) H.size x.1 := by
    intro k x hx hk'
    have hlt := (hP k x hx).lt
    refine ⟨hlt, fun z => ?_⟩
    rcases z with ⟨j, e, z⟩ | z
    · obtain ⟨i, g1, g2⟩ := x_sub hlen hl hg z
      have := hD.1 k i x _ hx g2 rfl
      subst this
      exact hk' (List.mem_of_getElem? g1)
    · omega
  -- each cell of the new world: one of the callee's, or an old one
  have key : ∀ (k : Nat) (x : Nat × va_E), (xG E (as ++ nw) (w2 ++ ex))[k]? = some x → (∃ j, (xG E (xpm as pi ++ nw) lw')[j]? = some x ∧ ((pi[j]? = some k ∧ k < w.length) ∨ (j = pi.length + (k - w.length) ∧ w.length ≤ k))) ∨ (k < w.length ∧ k ∉ pi ∧ (xG E as w)[k]? = some x) := by
    intro k x hx
    obtain ⟨c, g1, g2, g3⟩ := xG_at hx
    by_cases hkw : k < w.length
    · have g1' : w2[k]? = some c := by rw [List.getElem?_append_left (by omega)] at g1; exact g1
      have ga : (as ++ nw).getD k 0 = as.getD k 0 := x_gd (by omega)
      by_cases hp : k ∈ pi
      · obtain ⟨j, hj⟩ := List.getElem?_of_mem hp
        have hjl : j < lw'.length := by
          have := (List.getElem?_eq_some_iff.mp hj).1
          omega
        have e1 := List.getElem?_eq_getElem hjl
        obtain ⟨c', e2, e3⟩ := s1 j k _ hj e1
        cases e2.symm.trans g1'
        refine Or.inl ⟨j, ?_, Or.inl ⟨hj, hkw⟩⟩
        rw [xG_get hl' e1, g3, ga, x_gd (by rw [hpm]; exact (List.getElem?_eq_some_iff.mp hj).1), xpm_get hj, e3 E as nw hlen hpl]
      · have g1'' : w[k]? = some c := by rw [← s2 k hp]; exact g1'
        refine Or.inr ⟨hkw, hp, ?_⟩
        rw [xG_get hlen g1'', g3, ga, hF k c g1'']
    · have g1' : ex[k - w.length]? = some c := by rw [List.getElem?_append_right (by omega), h2] at g1; exact g1
      have hjl : pi.length + (k - w.length) < lw'.length := by
        have := (List.getElem?_eq_some_iff.mp g1').1
        omega
      have e1 := List.getElem?_eq_getElem hjl
      obtain ⟨c', e2, e3⟩ := s3 _ _ e1
      cases e2.symm.trans g1'
      refine Or.inl ⟨_, ?_, Or.inr ⟨rfl, by omega⟩⟩
      rw [xG_get hl' e1, g3, e3 E as nw hlen hpl]
      have f1 : (as ++ nw).getD k 0 = nw.getD (k - w.length) 0 := by
        rw [List.getD_eq_getElem?_getD, List.getElem?_append_right (by omega), hlen, List.getD_eq_getElem?_getD]
      have f2 : (xpm as pi ++ nw).getD (pi.length + (k - w.length)) 0 = nw.getD (k - w.length) 0 := by
        rw [List.getD_eq_getElem?_getD, List.getElem?_append_right (by omega), hpm, Nat.add_sub_cancel_left, List.getD_eq_getElem?_getD]
      rw [f1, f2]
  refine ⟨hlen2, fun k x hx => ?_, fun i j x y hi hj hxy => ?_, fun k x hx => ?_⟩
  · rcases key k x hx with ⟨j, h, -⟩ | ⟨h1, h2, h⟩
    · exact hP1 j x h
    · exact (hP k x h).kept (hk x.1 (apart k x h h2).1 (apart k x h h2).2)
  · rcases key i x hi with ⟨a, h, hc⟩ | ⟨h1, h2, h⟩ <;> rcases key j y hj with ⟨b, g, hd⟩ | ⟨g1, g2, g⟩
    · have hab := hD1.1 a b x y h g hxy
      subst hab
      rcases hc with ⟨c1, c2⟩ | ⟨c1, c2⟩ <;> rcases hd with ⟨d1, d2⟩ | ⟨d1, d2⟩
      · exact Option.some.inj (c1.symm.trans d1)
      · have := (List.getElem?_eq_some_iff.mp c1).1
        omega
      · have := (List.getElem?_eq_some_iff.mp d1).1
        omega
      · omega
    · exact absurd (hxy ▸ hD1.2 a x h) (apart j y g g2).2
    · exact absurd (hxy ▸ hD1.2 b y g) (hxy ▸ (apart i x h h2).2)
    · exact hD.1 i j x y h g hxy
  · rcases key k x hx with ⟨j, h, -⟩ | ⟨h1, h2, h⟩
    · exact hA _ (hD1.2 j x h)
    · exact hD.2 k x h
theorem ok_core (pc : Nat) {instr : Instr} {g : Bool} {MC MS kc ks n : Nat} {rc : Option Nat} {C : xPT} (hrun : decode cc pc = .ok (instr, 3) → xRunOk E R own cc nL init pc rc n kc ks C) (hR : MC ≤ R.cells ∧ MS ≤ R.slots) : xOk E R own cc nL rt init (pc, instr, 3, xs_call g MC MS kc ks rc n C) := by
  intro hd p l en s m args below meth c Q A as0 K X hR' ls st w b go h k
  unfold xs_call at h
  dsimp only at h
  obtain ⟨vs, st', hst, hn, h⟩ := xpop_spec h
  rw [List.append_nil] at h
  split at h
  · next e =>
    rw [Bool.and_eq_true] at e
    obtain ⟨e1, e2⟩ := e
    have e1 := x_beqT e1
    obtain ⟨h, hbz⟩ := xbud_any h
    have hb' : b.1 ≤ R.cells ∧ b.2 ≤ R.slots → b.1 + kc ≤ R.cells ∧ b.2 + ks ≤ R.slots := by
      intro z
      rcases hbz with ⟨z1, z2⟩ | ⟨z1, z2⟩
      · omega
      · exact ⟨Nat.le_trans z1 hR.1, Nat.le_trans z2 hR.2⟩
    obtain ⟨hrv, h⟩ := xrck_spec h
    have hrl : vs.reverse.length = n := by rw [List.length_reverse]; exact hn
    split at h
    · -- the callee's world is the caller's
      have h := h C rfl
      intro nw H locs la hbb hlen hP hD hS hl
      obtain ⟨hb1, hb2⟩ := hb' hbb
      have hst2 : st.map (xcv E (as0 ++ nw)) = ((vs.reverse).map (xcv E (as0 ++ nw))).reverse ++ st'.map (xcv E (as0 ++ nw)) := by
        rw [hst, List.map_append, List.map_reverse, List.reverse_reverse]
      rw [hst2]
      have hA1 : ∀ q, va_A (xG E (as0 ++ nw) w) H.size q → A q := by
        intro q hq
        rcases hq with ⟨j, x, hq⟩ | hq
        · exact hD.2 j _ hq
        · exact X.2.2.2.2.2.2.2.1 q (Nat.le_trans hS.1 hq)
      refine x_after (hrun hd p l en s m args below meth c A X (as0 ++ nw) w _ vs.reverse H locs b.1 b.2 la (st'.map (xcv E (as0 ++ nw))) h hrl hlen hP (hD.weaken fun _ _ _ _ => trivial) hA1 hS hl.1 (by rw [x_sum]; exact e1) (by omega) (by omega) hrv) hS hA1 hA1 ?_
      intro r w' nw2 H1 locs1 hK hln hP1 hD1 hz hk1 hS1
      split at hK
      · next e3 =>
        have e3 := xbeq e3
        have hnil : nw2 = [] := by
          rw [List.length_append] at hln
          exact List.length_eq_zero_iff.mp (by omega)
        subst hnil
        rw [List.append_nil] at hln hP1 hD1 ⊢
        have hD2 : va_D A (xG E (as0 ++ nw) w') := hD1.weaken fun _ _ _ hq => hA1 _ hq
        cases r with
        | none => exact k none _ _ _ _ hK nw H1 locs1 la ⟨by omega, by omega⟩ hln hP1 hD2 hS1 hl
        | some v => exact k none _ _ _ _ hK nw H1 locs1 la ⟨by omega, by omega⟩ hln hP1 hD2 hS1 hl
      · exact hK.elim
    · obtain ⟨pi, h, hnd, hpl⟩ := xpi_spec h List.nodup_nil (fun a ha => by cases ha)
      obtain ⟨av', h, hal, hav, hah⟩ := xdnF_spec h
      obtain ⟨lw, h, hll, hlg⟩ := xga_spec h
      have h := h C rfl
      intro nw H locs la hbb hlen hP hD hS hl
      obtain ⟨hb1, hb2⟩ := hb' hbb
      have hst2 : st.map (xcv E (as0 ++ nw)) = (av'.map (xcv E (xpm (as0 ++ nw) pi))).reverse ++ st'.map (xcv E (as0 ++ nw)) := by
        rw [hst, List.map_append, hav, List.map_reverse, List.reverse_reverse]
      rw [hst2]
      have hsub := fun j x (hx : (xG E (xpm (as0 ++ nw) pi) lw)[j]? = some x) => x_sub (E := E) hlen hll hlg hx
      have hA1 : ∀ q, va_A (xG E (xpm (as0 ++ nw) pi) lw) H.size q → A q := by
        intro q hq
        rcases hq with ⟨j, x, hq⟩ | hq
        · obtain ⟨i, -, hi⟩ := hsub j _ hq
          exact hD.2 i _ hi
        · exact X.2.2.2.2.2.2.2.1 q (Nat.le_trans hS.1 hq)
      have hPc : va_P E.1 vwCl (xG E (xpm (as0 ++ nw) pi) lw) H := fun j x hx => by
        obtain ⟨i, -, hi⟩ := hsub j x hx
        exact hP i x hi
      have hDc : va_D (fun _ => True) (xG E (xpm (as0 ++ nw) pi) lw) := ⟨fun i j x y hx hy hxy => by
        obtain ⟨i1, g1, g2⟩ := hsub i x hx
        obtain ⟨j1, g3, g4⟩ := hsub j y hy
        have := hD.1 i1 j1 x y g2 g4 hxy
        subst this
        exact x_nodup hnd g1 g3, fun _ _ _ => trivial⟩
      have hrv' : xrecv rc av' lw := by
        cases rc with
        | none => trivial
        | some ci =>
          obtain ⟨q, vs2, fs, hq1, hq2⟩ := hrv
          obtain ⟨j, r', hj1, hj2⟩ := hah q vs2 hq1
          obtain ⟨c1, c2, g1, g2, g3⟩ := hlg j q hj2
          cases g1.symm.trans hq2
          have g4 := g3 E (as0 ++ nw)
          match c2, g2, g4 with
          | .inl a, _, g4 => cases g4
          | .inr (.inl (t, xs)), _, g4 => cases g4
          | .inr (.inr (cj, fs2)), g2, g4 =>
            have : cj = ci := congrArg (fun z : va_E => match z with | .inl _ => 0 | .inr o => o.1) g4
            subst this
            exact ⟨j, r', fs2, hj1, g2⟩
      refine x_after (hrun hd p l en s m args below meth c A X (xpm (as0 ++ nw) pi) lw _ av' H locs b.1 b.2 la (st'.map (xcv E (as0 ++ nw))) h (by rw [hal]; exact hrl) (by rw [hll]; exact List.length_map _) hPc hDc hA1 hS hl.1 (by rw [x_sum]; exact e1) (by omega) (by omega) hrv') hS hA1 hA1 ?_
      intro r lw' nw2 H1 locs1 hK hln hP1 hD1 hz hk1 hS1
      obtain ⟨w2, ex, hK, q2, q3, qg, q5, q6, q7⟩ := xsc_spec hK hnd
      have hpm : (xpm (as0 ++ nw) pi).length = pi.length := List.length_map _
      have hF : (∀ (k : Nat) (c : xC), w[k]? = some c → xce E ((as0 ++ nw) ++ nw2) c = xce E (as0 ++ nw) c) ∧ xlv E ((as0 ++ nw) ++ nw2) ls = xlv E (as0 ++ nw) ls ∧ st'.map (xcv E ((as0 ++ nw) ++ nw2)) = st'.map (xcv E (as0 ++ nw)) := by
        cases g with
        | false =>
          have : ex = [] := qg rfl
          subst this
          have : nw2 = [] := by
            rw [List.length_append, hpm, q3, List.length_nil] at hln
            exact List.length_eq_zero_iff.mp (by omega)
          subst this
          rw [List.append_nil]
          exact ⟨fun _ _ _ => rfl, rfl, rfl⟩
        | true =>
          have e2 : xok ls (vs.reverse ++ st') w = true := e2
          obtain ⟨o1, o2, o3⟩ := xok_spec e2
          exact ⟨fun k c hc => xce_app (Nat.le_of_eq hlen.symm) (xokW_get o3 hc), xlv_app (Nat.le_of_eq hlen.symm) o1, xcvF_app (Nat.le_of_eq hlen.symm) (xokF_app o2)⟩
      obtain ⟨b1, b2, b3⟩ := x_back hlen hll hnd hpl hlg hP hD hA1 hln hP1 hD1 hk1 q2 q3 q5 q6 q7 hF.1
      have e4 : as0 ++ (nw ++ nw2) = (as0 ++ nw) ++ nw2 := (List.append_assoc _ _ _).symm
      have hl2 : lv_has la nL (xlv E (as0 ++ (nw ++ nw2)) ls) := by rw [e4, hF.2.1]; exact hl
      cases r with
      | none =>
        have := k none _ _ _ _ hK (nw ++ nw2) H1 locs1 la ⟨by omega, by omega⟩ (by rw [e4]; exact b1) (by rw [e4]; exact b2) (by rw [e4]; exact b3) hS1 hl2
        rw [e4, hF.2.2] at this
        exact this
      | some v =>
        unfold xret at hK
        obtain ⟨v', hK, hv⟩ := xupV_spec hK
        have := k none _ _ _ _ hK (nw ++ nw2) H1 locs1 la ⟨by omega, by omega⟩ (by rw [e4]; exact b1) (by rw [e4]; exact b2) (by rw [e4]; exact b3) hS1 hl2
        rw [List.map_cons, e4, hF.2.2, hv E (as0 ++ nw) nw2 hlen hpl] at this
        exact this
  · exact h.elim
end CORE
def xchain : List xEl → Bool
  | [] => true
  | [_] => true
  | e :: e' :: r => Nat.beq e'.1 (e.1 + e.2.2.1) && xchain (e' :: r)
theorem xchain_at : ∀ {pre : List xEl} {e e' : xEl} {r : List xEl}, xchain (pre ++ e :: e' :: r) = true → e'.1 = e.1 + e.2.2.1
  | [], e, e', r, h => by
    rw [List.nil_append] at h
    unfold xchain at h
    rw [Bool.and_eq_true] at h
    exact xbeq h.1
  | [a], e, e', r, h => by
    have h : xchain (a :: e :: e' :: r) = true := h
    unfold xchain at h
    rw [Bool.and_eq_true] at h
    exact xchain_at (pre := []) h.2
  | a :: b :: pre, e, e', r, h => by
    have h : xchain (a :: b :: (pre ++ e :: e' :: r)) = true := h
    unfold xchain at h
    rw [Bool.and_eq_true] at h
    exact xchain_at (pre := b :: pre) h.2
theorem xseek_spec {t : Nat} : ∀ {prog : List xEl}, xseek prog t = [] ∨ ∃ pre e r, prog = pre ++ e :: r ∧ xseek prog t = e :: r ∧ e.1 = t
  | [] => Or.inl rfl
  | a :: prog => by
    unfold xseek
    split
    · next e => exact Or.inr ⟨[], a, prog, rfl, rfl, xbeq e⟩
    · rcases xseek_spec (prog := prog) (t := t) with h | ⟨pre, e, r, h1, h2, h3⟩
      · exact Or.inl h
      · exact Or.inr ⟨a :: pre, e, r, by rw [h1]; rfl, h2, h3⟩
section MAST
variable {E : xE} {R : Room} {own : String} {cc : ByteArray} {nL : Nat} {rt : Option FieldType} {init : Bool}
theorem xWat_weak {p : Program} {l : Launch} {en : Env} {s : State} {m : MethodId} {args : Array Value} {below : List Frame} {meth : Method} {c : Code} {Q : State → Prop} {A : Nat → Prop} {as0 : List Nat} {pc : Nat} {ls ls' : xL} {st : List Value} {w : xW} {b : xB} (h : xWat E R p l en s m args below meth c Q A as0 nL pc ls' st w b) (hs : ∀ q ∈ ls', q ∈ ls) : xWat E R p l en s m args below meth c Q A as0 nL pc ls st w b := by
  intro nw H locs la hbb hlen hP hD hS hl
  refine h nw H locs la hbb hlen hP hD hS (lv_has_sub hl fun q hq => ?_)
  obtain ⟨x, hx, rfl⟩ := List.mem_map.mp hq
  exact List.mem_map.mpr ⟨x, hs x hx, rfl⟩
theorem xrun_sound {prog : List xEl} (hdec : ∀ e ∈ prog, decode cc e.1 = .ok (e.2.1, e.2.2.1)) (hch : xchain prog = true) (hok : ∀ e ∈ prog, xOk E R own cc nL rt init e) {p : Program} {l : Launch} {en : Env} {s : State} {m : MethodId} {args : Array Value} {below : List Frame} {meth : Method} {c : Code} {Q : State → Prop} {A : Nat → Prop} {as0 : List Nat} {K : xKo} {cuts : List (Nat × List Nat)}
    (X : xCtx E p s m args meth c cc own nL init A) (hR : xRet (xWat E R p l en s m args below meth c Q A as0 nL) cc rt K) : ∀ (n : Nat) (pre : List xEl) (e : xEl) (r : List xEl) (ls : xL) (st : List Value) (w : xW) (b : xB), prog = pre ++ e :: r → xrun prog cuts (xWat E R p l en s m args below meth c Q A as0 nL) K n (e :: r) ls st w b → xWat E R p l en s m args below meth c Q A as0 nL e.1 ls st w b
  | 0, _, _, _, _, _, _, _, _, h => by unfold xrun at h; exact h.elim
  | n + 1, pre, e, r, ls, st, w, b, hp, h => by
    unfold xrun at h
    have hm : e ∈ prog := by rw [hp]; simp
    refine hok e hm (hdec e hm) p l en s m args below meth c Q A as0 K X hR ls st w b _ h (fun t ls' st' w' b' hgo => ?_)
    cases t with
    | none =>
      cases r with
      | nil => exact hgo.elim
      | cons e' r' =>
        have he : e'.1 = e.1 + e.2.2.1 := xchain_at (pre := pre) (by rw [← hp]; exact hch)
        show xWat E R p l en s m args below meth c Q A as0 nL (e.1 + e.2.2.1) ls' st' w' b'
        rw [← he]
        dsimp only at hgo
        split at hgo
        · obtain ⟨l1, h1, h2⟩ := xkeep_spec hgo
          exact xWat_weak h1 h2
        · exact xrun_sound hdec hch hok X hR n (pre ++ [e]) e' r' ls' st' w' b' (by rw [hp]; simp) hgo
    | some t =>
      dsimp only at hgo
      show xWat E R p l en s m args below meth c Q A as0 nL t ls' st' w' b'
      rcases xseek_spec (prog := prog) (t := t) with hs | ⟨pre2, e2, r2, h1, h2, h3⟩
      · rw [hs] at hgo
        exact hgo.elim
      · rw [h2] at hgo
        rw [← h3]
        dsimp only at hgo
        split at hgo
        · obtain ⟨l1, h4, h5⟩ := xkeep_spec hgo
          exact xWat_weak h4 h5
        · exact xrun_sound hdec hch hok X hR n pre2 e2 r2 ls' st' w' b' h1 hgo
end MAST
theorem x_lgl {E : xE} {as : List Nat} (av : List Value) : (lg_sl (av.map (xcv E as))).length = (lg_sl av).length := by
  induction av with
  | nil => rfl
  | cons v r ih =>
    unfold lg_sl at ih ⊢
    rw [List.map_cons, List.flatMap_cons, List.flatMap_cons, List.length_append, List.length_append, ih]
    congr 1
    simp only [xcv_cat]
    split <;> rfl
theorem x_lva {E : xE} {as : List Nat} : ∀ (i : Nat) (av : List Value), lv_args i (av.map (xcv E as)) = xlv E as (lv_args i av)
  | _, [] => rfl
  | i, v :: r => by
    rw [List.map_cons]
    unfold lv_args
    rw [xcv_cat, x_lva _ r]
    rfl
theorem x_metW {l : Launch} {y : MethodName} {ws ws' : List Cond} {rm : Room} {Pc : Array Value → State → Prop} {Qc : Array Value → State → Outcome → State → Prop} {mc ms : Nat} {free : Addr → Prop} {cc : ByteArray} {maxL : Nat} {ret : Option FieldType}
    (hy : (plainName y.cls || plainFor y) = true) (hw : ws = Cond.code y cc maxL ret :: ws')
    (body : ∀ p e s m args below meth c s₁, BodyLoose p l y (headSpec ws rm) cc maxL ret e s m args below meth c s₁ → c.maxLocals = maxL → Pc args s →
      W p l e (headSpec ws rm).room s m args below meth c s.heap [] 0 0 (MQ below Qc args s mc ms free) (entryFrame m args maxL)) : Met l y ws rm Pc Qc mc ms free := by
  rw [Bool.or_eq_true] at hy
  rcases hy with hy | hy
  · exact Met.ofW hy hw body
  · exact va_MetF hy hw body
theorem xSnd_of {y : MethodName} {cc : ByteArray} {maxL d mc ms : Nat} {rt : Option FieldType} {init : Bool} {prog : List xEl} (hy : (plainName y.cls || plainFor y) = true) (hdec : ∀ e ∈ prog, decode cc e.1 = .ok (e.2.1, e.2.2.1)) (hch : xchain prog = true) (hi : init = true → y.name = "<init>")
    (hok : ∀ E, ∀ e ∈ prog, xOk E (xR d mc ms) y.cls cc maxL rt init e) : xSnd y cc maxL rt d mc ms (xM maxL prog) := by
  intro l E as sz av w K hC
  refine x_metW (cc := cc) (maxL := maxL) (ret := rt) hy rfl ?_
  intro p e s m args below meth c s₁ B hml hv
  obtain ⟨rfl, hsz, hlen, hP, hK, hD0, hst⟩ := hv
  subst hsz
  have hts := atoms_spec (ws := Cond.code y cc maxL rt :: xT) B.pre
  have hlocks := B.notSynchronized
  have hr := B.returns
  have X : xCtx E p s m (av.map (xcv E as)).toArray meth c cc y.cls maxL init (va_A (xG E as w) s.heap.size) := ⟨B.exec, B.bytes, hml, findClass_of_methodNamed B.named, fun w hw => hts w (List.mem_cons_of_mem _ hw), hK, hst, fun q h => Or.inr h, fun z => by
    rw [(name_of_methodNamed B.named B.method).1]; exact hi z⟩
  unfold xM at hC
  split at hC
  · next e5 =>
    have e5 := x_beqT e5
    have hR : xRet (xWat E (xR d mc ms) p l e s m (av.map (xcv E as)).toArray below meth c (MQ below (xQ E as K (va_A (xG E as w) s.heap.size)) (av.map (xcv E as)).toArray s mc ms (va_A (xG E as w) s.heap.size)) (va_A (xG E as w) s.heap.size) as maxL) cc rt K := by
      intro pc ls w' b
      have fin : ∀ (r : Option Value) (nw : List Nat) (H : Heap) (locs : List Loc), K r w' → (as ++ nw).length = w'.length → va_P E.1 vwCl (xG E (as ++ nw) w') H → va_D (va_A (xG E as w) s.heap.size) (xG E (as ++ nw) w') → va_S (va_A (xG E as w) s.heap.size) s.heap H locs → ∀ t : State, t.heap = H → xQ E as K (va_A (xG E as w) s.heap.size) (av.map (xcv E as)).toArray s (.returned (r.map (xcv E (as ++ nw)))) t :=
        fun r nw H locs hk h1 h2 h3 h4 t ht => ⟨⟨r, w', nw, rfl, hk, h1, by rw [ht]; exact h2, h3⟩, h4.F ht⟩
      refine ⟨fun v ty hd ht hn hk => ?_, fun q hd ht hk => ?_, fun hd ht hk => ?_⟩
      · intro nw H locs la hbb hl1 hP hD hS hl
        exact W.widen hbb.1 hbb.2 (W.zret (ty := ty) B.exec B.bytes (by rw [hr, ht]) hn (fun t h1 _ => fin (some (.int v)) nw H locs hk hl1 hP hD hS t h1) hS.2.2 hd)
      · intro nw H locs la hbb hl1 hP hD hS hl
        exact W.widen hbb.1 hbb.2 (W.aret (rt := .array .int) B.exec B.bytes (by rw [hr, ht]) (Or.inr ⟨_, rfl⟩) (Or.inr ⟨_, rfl⟩) (fun t h1 _ => fin (some (.ref q)) nw H locs hk hl1 hP hD hS t h1) hS.2.2 hd)
      · intro nw H locs la hbb hl1 hP hD hS hl
        exact W.widen hbb.1 hbb.2 (W.vret B.exec B.bytes (by rw [hr, ht]) (fun t h1 _ => fin none nw H locs hk hl1 hP hD hS t h1) hS.2.2 hd)
    have hW := hC (xWat E (xR d mc ms) p l e s m (av.map (xcv E as)).toArray below meth c (MQ below (xQ E as K (va_A (xG E as w) s.heap.size)) (av.map (xcv E as)).toArray s mc ms (va_A (xG E as w) s.heap.size)) (va_A (xG E as w) s.heap.size) as maxL) (fun n cuts pc ls st w' b h => by
      rcases xseek_spec (prog := prog) (t := pc) with hs | ⟨pre2, e2, r2, h1, h2, h3⟩
      · rw [hs] at h
        cases n <;> (unfold xrun at h; exact h.elim)
      · rw [h2] at h
        rw [← h3]
        exact xrun_sound hdec hch (hok E) X hR n pre2 e2 r2 ls st w' b h1 h)
    rw [lg_entry_eq]
    have hl := lv_entry (av.map (xcv E as)) (n := maxL) (by rw [x_lgl]; exact e5)
    rw [x_lva] at hl
    have := hW [] s.heap [] _ ⟨Nat.zero_le _, Nat.zero_le _⟩ (by rw [List.append_nil]; exact hlen) (by rw [List.append_nil]; exact hP) (by rw [List.append_nil]; exact hD0.self) va_S.rf (by rw [List.append_nil]; exact hl)
    exact this
  · exact hC.elim
