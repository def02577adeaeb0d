/-! ===== renaming: a callee's world is a part of its caller's ===== -/
def xpm (as pi : List Nat) : List Nat := pi.map (fun i => as.getD i 0)
theorem xpm_get {as pi : List Nat} {j q : Nat} (h : pi[j]? = some q) : (xpm as pi).getD j 0 = as.getD q 0 := by
  unfold xpm
  rw [List.getD_eq_getElem?_getD, List.getElem?_map, h]
  rfl
theorem xix_spec {q : Nat} : ∀ {pi : List Nat} {k : Nat → Prop}, xix pi q k → ∃ j, pi[j]? = some q ∧ k j
  | [], k, h => h.elim
  | a :: r, k, h => by
    unfold xix at h
    split at h
    · next e => exact ⟨0, by rw [xbeq e]; rfl, h⟩
    · obtain ⟨j, h1, h2⟩ := xix_spec h
      exact ⟨j + 1, by rw [List.getElem?_cons_succ]; exact h1, h2⟩
theorem xdnV_spec {pi : List Nat} {v : Value} {k : Value → Prop} (h : xdnV pi v k) : ∃ v', k v' ∧ (∀ (E : xE) (as : List Nat), xcv E (xpm as pi) v' = xcv E as v) ∧ ∀ q, v = .ref q → ∃ j, v' = .ref j ∧ pi[j]? = some q := by
  unfold xdnV at h
  split at h
  · exact ⟨_, h, fun _ _ => rfl, fun q e => by cases e⟩
  · exact ⟨_, h, fun _ _ => rfl, fun q e => by cases e⟩
  · obtain ⟨j, h1, h2⟩ := xix_spec h
    refine ⟨_, h2, fun E as => ?_, fun q e => ?_⟩
    · show Value.ref _ = Value.ref _
      rw [xpm_get h1]
    · cases e
      exact ⟨j, rfl, h1⟩
  · exact ⟨_, h, fun _ _ => rfl, fun q e => by cases e⟩
  · exact h.elim
theorem xdnF_spec {pi : List Nat} : ∀ {fs : List Value} {k : List Value → Prop}, xdnF pi fs k → ∃ fs', k fs' ∧ fs'.length = fs.length ∧ (∀ (E : xE) (as : List Nat), fs'.map (xcv E (xpm as pi)) = fs.map (xcv E as)) ∧ ∀ q r, fs = .ref q :: r → ∃ j r', fs' = .ref j :: r' ∧ pi[j]? = some q
  | [], k, h => ⟨[], h, rfl, fun _ _ => rfl, fun q r e => by cases e⟩
  | v :: r, k, h => by
    obtain ⟨v', h1, h2, h3⟩ := xdnV_spec h
    obtain ⟨r', h4, h5, h6, -⟩ := xdnF_spec h1
    refine ⟨_, h4, by simp [h5], fun E as => by rw [List.map_cons, List.map_cons, h2, h6], fun q r2 e => ?_⟩
    simp only [List.cons.injEq] at e
    obtain ⟨j, hj, hp⟩ := h3 q e.1
    exact ⟨j, r', by rw [hj], hp⟩
theorem xdnQ_spec {pi : List Nat} : ∀ {xs : List (Option Nat)} {k : List (Option Nat) → Prop}, xdnQ pi xs k → ∃ xs', k xs' ∧ xs'.length = xs.length ∧ ∀ (as : List Nat) (j : Nat), (xs'.getD j none).map (fun q => (xpm as pi).getD q 0) = (xs.getD j none).map (fun q => as.getD q 0)
  | [], k, h => ⟨[], h, rfl, fun _ _ => rfl⟩
  | none :: r, k, h => by
    obtain ⟨r', h1, h2, h3⟩ := xdnQ_spec (xs := r) h
    refine ⟨_, h1, by simp [h2], fun as j => ?_⟩
    cases j with
    | zero => rfl
    | succ j => simpa using h3 as j
  | some q :: r, k, h => by
    obtain ⟨a, ha, h⟩ := xix_spec (pi := pi) h
    obtain ⟨r', h1, h2, h3⟩ := xdnQ_spec (xs := r) h
    refine ⟨_, h1, by simp [h2], fun as j => ?_⟩
    cases j with
    | zero =>
      show some ((xpm as pi).getD a 0) = some (as.getD q 0)
      rw [xpm_get ha]
    | succ j => simpa using h3 as j
theorem xdnC_spec {pi : List Nat} {c : xC} {k : xC → Prop} (h : xdnC pi c k) : ∃ c', k c' ∧ ∀ (E : xE) (as : List Nat), xce E (xpm as pi) c' = xce E as c := by
  unfold xdnC at h
  split at h
  · exact ⟨_, h, fun _ _ => rfl⟩
  · next t xs =>
    obtain ⟨xs', h1, h2, h3⟩ := xdnQ_spec h
    refine ⟨_, h1, fun E as => ?_⟩
    have e : xqv (xpm as pi) xs' = xqv as xs := funext fun j => h3 as j
    show Sum.inl (xct E t, xs'.length, Sum.inr (Sum.inr (Sum.inr (Sum.inr (xqv (xpm as pi) xs'))))) = _
    rw [e, h2]
    rfl
  · next ci fs =>
    obtain ⟨fs', h1, h2, h3, -⟩ := xdnF_spec h
    exact ⟨_, h1, fun E as => congrArg (fun z : List Value => (Sum.inr (ci, z) : va_E)) (h3 E as)⟩
theorem xga_spec {pi : List Nat} {w : xW} : ∀ {is : List Nat} {k : xW → Prop}, xga pi w is k → ∃ lw : xW, k lw ∧ lw.length = is.length ∧ ∀ (j i : Nat), is[j]? = some i → ∃ c c' : xC, w[i]? = some c ∧ lw[j]? = some c' ∧ ∀ (E : xE) (as : List Nat), xce E (xpm as pi) c' = xce E as c
  | [], k, h => ⟨[], h, rfl, fun j i e => by simp at e⟩
  | i :: r, k, h => by
    obtain ⟨c, hc, h1⟩ := xrd_spec h
    obtain ⟨c', h2, h3⟩ := xdnC_spec h1
    obtain ⟨lw, h4, h5, h6⟩ := xga_spec h2
    refine ⟨_, h4, by simp [h5], fun j i' e => ?_⟩
    cases j with
    | zero =>
      simp only [List.getElem?_cons_zero, Option.some.injEq] at e
      subst e
      exact ⟨c, c', hc, rfl, h3⟩
    | succ j =>
      rw [List.getElem?_cons_succ] at e
      obtain ⟨d, d', g1, g2, g3⟩ := h6 j i' e
      exact ⟨d, d', g1, by rw [List.getElem?_cons_succ]; exact g2, g3⟩
theorem xupI_spec {n : Nat} : ∀ {pi : List Nat} {j : Nat} {k : Nat → Prop}, xupI n pi j k → ∃ i, k i ∧ ∀ (as nw : List Nat), as.length = n → (∀ a ∈ pi, a < n) → (as ++ nw).getD i 0 = (xpm as pi ++ nw).getD j 0
  | [], j, k, h => ⟨n + j, h, fun as nw hn _ => by
      rw [List.getD_eq_getElem?_getD, List.getElem?_append_right (by omega), show n + j - as.length = j by omega]
      show _ = ([] ++ nw).getD j 0
      rw [List.nil_append, List.getD_eq_getElem?_getD]⟩
  | a :: r, 0, k, h => ⟨a, h, fun as nw hn ha => by
      rw [x_gd (by rw [hn]; exact ha a List.mem_cons_self)]
      rfl⟩
  | a :: r, j + 1, k, h => by
    obtain ⟨i, h1, h2⟩ := xupI_spec (pi := r) (j := j) h
    exact ⟨i, h1, fun as nw hn ha => by
      rw [h2 as nw hn fun x hx => ha x (List.mem_cons_of_mem _ hx)]
      rfl⟩
theorem xupV_spec {n : Nat} {pi : List Nat} {v : Value} {k : Value → Prop} (h : xupV n pi v k) : ∃ v', k v' ∧ ∀ (E : xE) (as nw : List Nat), as.length = n → (∀ a ∈ pi, a < n) → xcv E (as ++ nw) v' = xcv E (xpm as pi ++ nw) v := by
  unfold xupV at h
  split at h
  · exact ⟨_, h, fun _ _ _ _ _ => rfl⟩
  · exact ⟨_, h, fun _ _ _ _ _ => rfl⟩
  · obtain ⟨i, h1, h2⟩ := xupI_spec h
    exact ⟨_, h1, fun E as nw hn ha => congrArg Value.ref (h2 as nw hn ha)⟩
  · exact ⟨_, h, fun _ _ _ _ _ => rfl⟩
  · exact h.elim
theorem xupF_spec {n : Nat} {pi : List Nat} : ∀ {fs : List Value} {k : List Value → Prop}, xupF n pi fs k → ∃ fs', k fs' ∧ ∀ (E : xE) (as nw : List Nat), as.length = n → (∀ a ∈ pi, a < n) → fs'.map (xcv E (as ++ nw)) = fs.map (xcv E (xpm as pi ++ nw))
  | [], k, h => ⟨[], h, fun _ _ _ _ _ => rfl⟩
  | v :: r, k, h => by
    obtain ⟨v', h1, h2⟩ := xupV_spec h
    obtain ⟨r', h3, h4⟩ := xupF_spec h1
    exact ⟨_, h3, fun E as nw hn ha => by rw [List.map_cons, List.map_cons, h2 E as nw hn ha, h4 E as nw hn ha]⟩
theorem xupQ_spec {n : Nat} {pi : List Nat} : ∀ {xs : List (Option Nat)} {k : List (Option Nat) → Prop}, xupQ n pi xs k → ∃ xs', k xs' ∧ xs'.length = xs.length ∧ ∀ (as nw : List Nat) (j : Nat), as.length = n → (∀ a ∈ pi, a < n) → (xs'.getD j none).map (fun q => (as ++ nw).getD q 0) = (xs.getD j none).map (fun q => (xpm as pi ++ nw).getD q 0)
  | [], k, h => ⟨[], h, rfl, fun _ _ _ _ _ => rfl⟩
  | none :: r, k, h => by
    obtain ⟨r', h1, h2, h3⟩ := xupQ_spec (xs := r) h
    refine ⟨_, h1, by simp [h2], fun as nw j hn ha => ?_⟩
    cases j with
    | zero => rfl
    | succ j => simpa using h3 as nw j hn ha
  | some q :: r, k, h => by
    obtain ⟨i, h, hi⟩ := xupI_spec (pi := pi) h
    obtain ⟨r', h1, h2, h3⟩ := xupQ_spec (xs := r) h
    refine ⟨_, h1, by simp [h2], fun as nw j hn ha => ?_⟩
    cases j with
    | zero =>
      show some ((as ++ nw).getD i 0) = some ((xpm as pi ++ nw).getD q 0)
      rw [hi as nw hn ha]
    | succ j => simpa using h3 as nw j hn ha
/-- a cell of the callee's, as its caller has it -/
def xUp (n : Nat) (pi : List Nat) (c c' : xC) : Prop := ∀ (E : xE) (as nw : List Nat), as.length = n → (∀ a ∈ pi, a < n) → xce E (as ++ nw) c' = xce E (xpm as pi ++ nw) c
theorem xupC_spec {n : Nat} {pi : List Nat} {c : xC} {k : xC → Prop} (h : xupC n pi c k) : ∃ c', k c' ∧ xUp n pi c c' := by
  unfold xupC at h
  split at h
  · exact ⟨_, h, fun _ _ _ _ _ => rfl⟩
  · next t xs =>
    obtain ⟨xs', h1, h2, h3⟩ := xupQ_spec h
    refine ⟨_, h1, fun E as nw hn ha => ?_⟩
    have e : xqv (as ++ nw) xs' = xqv (xpm as pi ++ nw) xs := funext fun j => h3 as nw j hn ha
    show Sum.inl (xct E t, xs'.length, Sum.inr (Sum.inr (Sum.inr (Sum.inr (xqv (as ++ nw) xs'))))) = _
    rw [e, h2]
    rfl
  · next ci fs =>
    obtain ⟨fs', h1, h2⟩ := xupF_spec h
    exact ⟨_, h1, fun E as nw hn ha => congrArg (fun z : List Value => (Sum.inr (ci, z) : va_E)) (h2 E as nw hn ha)⟩
theorem xupL_spec {n : Nat} {pi : List Nat} : ∀ {r : xW} {k : xW → Prop}, xupL n pi r k → ∃ r' : xW, k r' ∧ r'.length = r.length ∧ ∀ (j : Nat) (c : xC), r[j]? = some c → ∃ c' : xC, r'[j]? = some c' ∧ xUp n pi c c'
  | [], k, h => ⟨[], h, rfl, fun j c e => by simp at e⟩
  | c :: r, k, h => by
    obtain ⟨c', h1, h2⟩ := xupC_spec h
    obtain ⟨r', h3, h4, h5⟩ := xupL_spec h1
    refine ⟨_, h3, by simp [h4], fun j d e => ?_⟩
    cases j with
    | zero =>
      simp only [List.getElem?_cons_zero, Option.some.injEq] at e
      subst e
      exact ⟨c', rfl, h2⟩
    | succ j =>
      rw [List.getElem?_cons_succ] at e ⊢
      exact h5 j d e
theorem xapp_spec {w2 : xW} : ∀ {w : xW} {k : xW → Prop}, xapp w w2 k → k (w ++ w2)
  | [], k, h => h
  | c :: w, k, h => xapp_spec (w := w) h
theorem xsc_spec {g : Bool} {n : Nat} {pi : List Nat} : ∀ {is : List Nat} {lw w : xW} {k : xW → Prop}, xsc g n pi is lw w k → is.Nodup → ∃ w2 ex : xW, k (w2 ++ ex) ∧ w2.length = w.length ∧ lw.length = is.length + ex.length ∧ (g = false → ex = []) ∧ (∀ (j i : Nat) (c : xC), is[j]? = some i → lw[j]? = some c → ∃ c' : xC, w2[i]? = some c' ∧ xUp n pi c c') ∧ (∀ i : Nat, i ∉ is → w2[i]? = w[i]?) ∧ ∀ (j : Nat) (c : xC), lw[is.length + j]? = some c → ∃ c' : xC, ex[j]? = some c' ∧ xUp n pi c c'
  | [], [], w, k, h, _ => ⟨w, [], by rw [List.append_nil]; exact h, rfl, rfl, fun _ => rfl, fun j i c e => by simp at e, fun _ _ => rfl, fun j c e => by simp at e⟩
  | [], c :: r, w, k, h, _ => by
    unfold xsc at h
    split at h
    · obtain ⟨r', h1, h2, h3⟩ := xupL_spec h
      refine ⟨w, r', xapp_spec h1, rfl, by rw [h2]; simp, fun z => by (cases z), fun j i c e => by simp at e, fun _ _ => rfl, fun j c e => ?_⟩
      rw [List.length_nil, Nat.zero_add] at e
      exact h3 j c e
    · exact h.elim
  | i :: is, [], w, k, h, _ => by unfold xsc at h; exact h.elim
  | i :: is, c :: r, w, k, h, hn => by
    unfold xsc at h
    obtain ⟨c', h1, h2⟩ := xupC_spec h
    obtain ⟨hi, h3⟩ := xwr_spec h1
    have hn := List.nodup_cons.mp hn
    obtain ⟨w2, ex, g1, g2, g3, g4, g5, g6, g7⟩ := xsc_spec h3 hn.2
    refine ⟨w2, ex, g1, by rw [g2, List.length_set], by simp only [List.length_cons, g3]; omega, g4, fun j i' d e1 e2 => ?_, fun i' hi' => ?_, fun j d e => ?_⟩
    · cases j with
      | zero =>
        simp only [List.getElem?_cons_zero, Option.some.injEq] at e1 e2
        subst e1
        subst e2
        exact ⟨c', by rw [g6 _ hn.1, List.getElem?_set_self hi], h2⟩
      | succ j =>
        rw [List.getElem?_cons_succ] at e1 e2
        exact g5 j i' d e1 e2
    · rw [g6 i' (fun z => hi' (List.mem_cons_of_mem _ z)), List.getElem?_set_ne (fun z => hi' (by rw [z]; exact List.mem_cons_self))]
    · rw [List.length_cons, show is.length + 1 + j = (is.length + j) + 1 by omega, List.getElem?_cons_succ] at e
      exact g7 j d e
theorem xrange_spec {L : Nat} {acc : List Nat} : ∀ {n q : Nat} {k : List Nat → Prop}, xrange L acc n q k → ∃ l, k l ∧ l.Nodup ∧ ∀ a ∈ l, a < L ∧ a ∉ acc ∧ q ≤ a
  | 0, q, k, h => ⟨[], h, List.nodup_nil, fun a ha => by cases ha⟩
  | n + 1, q, k, h => by
    unfold xrange at h
    have h := xforce_spec h
    split at h
    · obtain ⟨l, h1, h2, h3⟩ := xrange_spec h
      exact ⟨l, h1, h2, fun a ha => ⟨(h3 a ha).1, (h3 a ha).2.1, Nat.le_of_succ_le (h3 a ha).2.2⟩⟩
    · next e =>
      rw [Bool.or_eq_false_iff] at e
      obtain ⟨l, h1, h2, h3⟩ := xrange_spec h
      refine ⟨_, h1, List.nodup_cons.mpr ⟨fun z => ?_, h2⟩, fun a ha => ?_⟩
      · have := (h3 q z).2.2
        omega
      · rcases List.mem_cons.mp ha with rfl | ha
        · refine ⟨Nat.not_le.mp fun z => ?_, fun z => ?_, Nat.le_refl _⟩
          · have := Nat.ble_eq_true_of_le z
            rw [this] at e
            exact absurd e.1 (by simp)
          · have := e.2
            rw [List.any_eq_false] at this
            exact this a z (by simp)
        · exact ⟨(h3 a ha).1, (h3 a ha).2.1, Nat.le_of_succ_le (h3 a ha).2.2⟩
theorem xnapp_spec {w2 : List Nat} : ∀ {w : List Nat} {k : List Nat → Prop}, xnapp w w2 k → k (w ++ w2)
  | [], k, h => h
  | c :: w, k, h => xnapp_spec (w := w) h
theorem xpi_spec {w : xW} : ∀ {av : List Value} {acc : List Nat} {k : List Nat → Prop}, xpi w av acc k → acc.Nodup → (∀ a ∈ acc, a < w.length) → ∃ pi, k pi ∧ pi.Nodup ∧ ∀ a ∈ pi, a < w.length
  | [], acc, k, h, h1, h2 => ⟨acc, h, h1, h2⟩
  | v :: r, acc, k, h, h1, h2 => by
    unfold xpi at h
    split at h
    · next e => cases e
    · next e =>
      cases e
      obtain ⟨c, hc, h3⟩ := xrd_spec h
      obtain ⟨l, g1, g2, g3⟩ := xrange_spec h3
      refine xpi_spec (xnapp_spec g1) ?_ ?_
      · rw [List.nodup_append]
        exact ⟨h1, g2, fun a ha b hb z => (g3 b hb).2.1 (z ▸ ha)⟩
      · intro a ha
        rcases List.mem_append.mp ha with ha | ha
        · exact h2 a ha
        · exact (g3 a ha).1
    · next e =>
      cases e
      exact xpi_spec h h1 h2
