/-! ===== what pictures mean: addresses for the cells' places ===== -/
/-- classes' numbers and slots; the array classes; where the tables lie; the script's length and ints -/
abbrev xE : Type := va_G × (ClassId × ClassId × ClassId) × (UInt32 → Nat) × Nat × (Nat → Int32)
def xcv (E : xE) (as : List Nat) (v : Value) : Value := match v with
  | .ref q => .ref (as.getD q 0)
  | .float j => .ref (E.2.2.1 j)
  | v => v
def xct (E : xE) (t : Nat) : ClassId := match t with
  | 0 => E.2.1.2.1
  | _ => E.2.1.2.2
def xqv (as : List Nat) (xs : List (Option Nat)) : Nat → Option Nat := fun j => (xs.getD j none).map (fun q => as.getD q 0)
def xce (E : xE) (as : List Nat) (c : xC) : va_E := match c with
  | .inl a => .inl (E.2.1.1, a.1, .inl a.2)
  | .inr (.inl (t, xs)) => .inl (xct E t, xs.length, .inr (.inr (.inr (.inr (xqv as xs)))))
  | .inr (.inr (ci, fs)) => .inr (ci, fs.map (xcv E as))
def xG (E : xE) (as : List Nat) (w : xW) : va_W := List.zipWith (fun a c => (a, xce E as c)) as w
def xlv (E : xE) (as : List Nat) (ls : xL) : List (Nat × Value) := ls.map (fun q => (q.1, xcv E as q.2))
def xtys (E : xE) : List (ClassId × FieldType) := [(E.2.1.1, .int), (E.2.1.2.1, .object "HomeCalls$Law"), (E.2.1.2.2, .object "HomeCalls$Sheet")]
-- the continuation forms, read back
theorem xbeq {a b : Nat} (h : Nat.beq a b = true) : a = b := Nat.eq_of_beq_eq_true h
theorem xld_spec {i : Nat} {k : Value → Prop} : ∀ {ls : xL}, xld ls i k → ∃ v, (i, v) ∈ ls ∧ k v
  | [], h => h.elim
  | q :: r, h => by
    unfold xld at h
    split at h
    · next e => exact ⟨q.2, by rw [← xbeq e]; exact List.mem_cons_self, h⟩
    · obtain ⟨v, h1, h2⟩ := xld_spec h
      exact ⟨v, List.mem_cons_of_mem _ h1, h2⟩
theorem xrm_spec {i : Nat} : ∀ {ls : xL} {k : xL → Prop}, xrm ls i k → ∃ l, k l ∧ ∀ q ∈ l, q ∈ ls ∧ ¬ q.1 = i ∧ ¬ (q.1 + 1 = i ∧ q.2.category = 2)
  | [], k, h => ⟨[], h, fun q hq => by cases hq⟩
  | q :: r, k, h => by
    unfold xrm at h
    split at h
    · obtain ⟨l, h1, h2⟩ := xrm_spec h
      exact ⟨l, h1, fun x hx => ⟨List.mem_cons_of_mem _ (h2 x hx).1, (h2 x hx).2⟩⟩
    · next e =>
      obtain ⟨l, h1, h2⟩ := xrm_spec h
      refine ⟨_, h1, fun x hx => ?_⟩
      rcases List.mem_cons.mp hx with rfl | hx
      · rw [Bool.or_eq_false_iff] at e
        refine ⟨List.mem_cons_self, fun z => ?_, fun z => ?_⟩
        · rw [z] at e; simp at e
        · rw [z.1, z.2] at e; simp at e
      · exact ⟨List.mem_cons_of_mem _ (h2 x hx).1, (h2 x hx).2⟩
theorem xins_spec {i : Nat} {v : Value} : ∀ {ls : xL} {k : xL → Prop}, xins ls i v k → ∃ l, k l ∧ ∀ q ∈ l, q = (i, v) ∨ q ∈ ls
  | [], k, h => ⟨_, h, fun q hq => by simp at hq; exact Or.inl hq⟩
  | q :: r, k, h => by
    unfold xins at h
    split at h
    · obtain ⟨l, h1, h2⟩ := xins_spec h
      refine ⟨_, h1, fun x hx => ?_⟩
      rcases List.mem_cons.mp hx with rfl | hx
      · exact Or.inr List.mem_cons_self
      · rcases h2 x hx with h | h
        · exact Or.inl h
        · exact Or.inr (List.mem_cons_of_mem _ h)
    · refine ⟨_, h, fun x hx => ?_⟩
      rcases List.mem_cons.mp hx with rfl | hx
      · exact Or.inl rfl
      · exact Or.inr hx
theorem xsto_spec {i : Nat} {v : Value} {ls : xL} {k : xL → Prop} (h : xsto ls i v k) : ∃ l, k l ∧ ∀ q ∈ l, q = (i, v) ∨ (q ∈ ls ∧ ¬ q.1 = i ∧ ¬ (q.1 + 1 = i ∧ q.2.category = 2)) := by
  obtain ⟨l1, h1, h2⟩ := xrm_spec h
  obtain ⟨l2, h3, h4⟩ := xins_spec h1
  refine ⟨l2, h3, fun q hq => ?_⟩
  rcases h4 q hq with h | h
  · exact Or.inl h
  · exact Or.inr (h2 q h)
theorem xkeep_spec {ls : xL} : ∀ {is : List Nat} {k : xL → Prop}, xkeep is ls k → ∃ l, k l ∧ ∀ q ∈ l, q ∈ ls
  | [], k, h => ⟨[], h, fun q hq => by cases hq⟩
  | i :: r, k, h => by
    obtain ⟨v, h1, h2⟩ := xld_spec h
    obtain ⟨l, h3, h4⟩ := xkeep_spec h2
    refine ⟨_, h3, fun x hx => ?_⟩
    rcases List.mem_cons.mp hx with rfl | hx
    · exact h1
    · exact h4 x hx
theorem xrd_spec {k : xC → Prop} : ∀ {w : xW} {q : Nat}, xrd w q k → ∃ c, w[q]? = some c ∧ k c
  | [], q, h => by unfold xrd at h; exact h.elim
  | c :: w, 0, h => ⟨c, rfl, h⟩
  | c :: w, n + 1, h => by
    obtain ⟨c', h1, h2⟩ := xrd_spec (w := w) (q := n) h
    exact ⟨c', by rw [List.getElem?_cons_succ]; exact h1, h2⟩
theorem xwr_spec {c : xC} : ∀ {w : xW} {q : Nat} {k : xW → Prop}, xwr w q c k → q < w.length ∧ k (w.set q c)
  | [], q, k, h => by unfold xwr at h; exact h.elim
  | b :: w, 0, k, h => ⟨Nat.zero_lt_succ _, h⟩
  | b :: w, n + 1, k, h => by
    obtain ⟨h1, h2⟩ := xwr_spec (w := w) (q := n) h
    exact ⟨Nat.succ_lt_succ h1, h2⟩
theorem xfg_spec {k : Value → Prop} : ∀ {w : List Value} {q : Nat}, xfg w q k → ∃ c, w[q]? = some c ∧ k c
  | [], q, h => by unfold xfg at h; exact h.elim
  | c :: w, 0, h => ⟨c, rfl, h⟩
  | c :: w, n + 1, h => by
    obtain ⟨c', h1, h2⟩ := xfg_spec (w := w) (q := n) h
    exact ⟨c', by rw [List.getElem?_cons_succ]; exact h1, h2⟩
theorem xfs_spec {c : Value} : ∀ {w : List Value} {q : Nat} {k : List Value → Prop}, xfs w q c k → q < w.length ∧ k (w.set q c)
  | [], q, k, h => by unfold xfs at h; exact h.elim
  | b :: w, 0, k, h => ⟨Nat.zero_lt_succ _, h⟩
  | b :: w, n + 1, k, h => by
    obtain ⟨h1, h2⟩ := xfs_spec (w := w) (q := n) h
    exact ⟨Nat.succ_lt_succ h1, h2⟩
theorem xqs_spec {c : Option Nat} : ∀ {w : List (Option Nat)} {q : Nat} {k : List (Option Nat) → Prop}, xqs w q c k → q < w.length ∧ k (w.set q c)
  | [], q, k, h => by unfold xqs at h; exact h.elim
  | b :: w, 0, k, h => ⟨Nat.zero_lt_succ _, h⟩
  | b :: w, n + 1, k, h => by
    obtain ⟨h1, h2⟩ := xqs_spec (w := w) (q := n) h
    exact ⟨Nat.succ_lt_succ h1, h2⟩
theorem xpush_spec {c : xC} : ∀ {w : xW} {k : Nat → xW → Prop}, xpush w c k → k w.length (w ++ [c])
  | [], k, h => h
  | b :: w, k, h => xpush_spec (w := w) h
theorem xforce_spec {n : Nat} {k : Nat → Prop} (h : xforce n k) : k n := by
  cases n <;> exact h
theorem xbud_spec {mc ms k n : Nat} {b : xB} {go : xB → Prop} (h : xbud mc ms k n b go) : (k = 0 ∧ n = 0 ∧ go b) ∨ (b.1 + k ≤ mc ∧ b.2 + n ≤ ms ∧ go (b.1 + k, b.2 + n)) := by
  unfold xbud at h
  split at h
  · next e =>
    rw [Bool.and_eq_true] at e
    exact Or.inl ⟨xbeq e.1, xbeq e.2, h⟩
  · split at h
    · next e =>
      rw [Bool.and_eq_true] at e
      exact Or.inr ⟨Nat.le_of_ble_eq_true e.1, Nat.le_of_ble_eq_true e.2, xforce_spec (xforce_spec h)⟩
    · exact h.elim
theorem xbud_any {mc ms k n : Nat} {b : xB} {go : xB → Prop} (h : xbud mc ms k n b go) : go (b.1 + k, b.2 + n) ∧ ((k = 0 ∧ n = 0) ∨ (b.1 + k ≤ mc ∧ b.2 + n ≤ ms)) := by
  rcases xbud_spec h with ⟨rfl, rfl, h⟩ | ⟨h1, h2, h⟩
  · exact ⟨h, Or.inl ⟨rfl, rfl⟩⟩
  · exact ⟨h, Or.inr ⟨h1, h2⟩⟩
theorem xbud_one {mc ms k n : Nat} {b : xB} {go : xB → Prop} (h : xbud mc ms (k + 1) n b go) : b.1 + (k + 1) ≤ mc ∧ b.2 + n ≤ ms ∧ go (b.1 + (k + 1), b.2 + n) := by
  rcases xbud_spec h with ⟨h, -, -⟩ | h
  · omega
  · exact h
theorem xpop_spec : ∀ {n : Nat} {st acc : List Value} {k : List Value → List Value → Prop}, xpop n st acc k → ∃ as rest, st = as ++ rest ∧ as.length = n ∧ k (as.reverse ++ acc) rest
  | 0, st, acc, k, h => ⟨[], st, rfl, rfl, h⟩
  | n + 1, [], acc, k, h => by unfold xpop at h; exact h.elim
  | n + 1, v :: st, acc, k, h => by
    obtain ⟨as, rest, h1, h2, h3⟩ := xpop_spec (n := n) (st := st) (acc := v :: acc) h
    exact ⟨v :: as, rest, by rw [h1]; rfl, by simp [h2], by simpa using h3⟩
theorem xaa_spec {i : Int32} {k : Nat → Prop} : ∀ {xs : List (Option Nat)} {j : Nat}, xaa i k j xs → ∀ n, n < xs.length → i = Int32.ofNat (j + n) → ∃ q, xs[n]? = some (some q) ∧ k q
  | [], j, _, n, hn, _ => absurd hn (Nat.not_lt_zero _)
  | none :: r, j, h, n, hn, e => by unfold xaa at h; exact h.elim
  | some q :: r, j, h, 0, hn, e => ⟨q, rfl, h.1 e⟩
  | some q :: r, j, h, n + 1, hn, e => by
    obtain ⟨q', h1, h2⟩ := xaa_spec (xs := r) (j := j + 1) h.2 n (Nat.lt_of_succ_lt_succ hn) (by rw [e]; congr 1; omega)
    exact ⟨q', by rw [List.getElem?_cons_succ]; exact h1, h2⟩
-- the world's cells
theorem xG_get {E : xE} {as : List Nat} {w : xW} {q : Nat} {c : xC} (hl : as.length = w.length) (h : w[q]? = some c) : (xG E as w)[q]? = some (as.getD q 0, xce E as c) := by
  have hq : q < as.length := by rw [hl]; exact (List.getElem?_eq_some_iff.mp h).1
  unfold xG
  rw [List.getElem?_zipWith, h, List.getD_eq_getElem?_getD, List.getElem?_eq_getElem hq]
  rfl
theorem xG_at {E : xE} {as : List Nat} {w : xW} {q : Nat} {x : Nat × va_E} (h : (xG E as w)[q]? = some x) : ∃ c, w[q]? = some c ∧ q < as.length ∧ x = (as.getD q 0, xce E as c) := by
  unfold xG at h
  rw [List.getElem?_zipWith] at h
  cases ha : as[q]? with
  | none => rw [ha] at h; simp at h
  | some a =>
    cases hw : w[q]? with
    | none => rw [ha, hw] at h; simp at h
    | some c =>
      rw [ha, hw] at h
      simp only [Option.some.injEq] at h
      exact ⟨c, rfl, (List.getElem?_eq_some_iff.mp ha).1, by rw [← h, List.getD_eq_getElem?_getD, ha]; rfl⟩
theorem x_zs {β : Type} (f : Nat → xC → β) : ∀ (as : List Nat) (w : xW) (q : Nat) (c : xC), as.length = w.length → q < w.length → (List.zipWith f as w).set q (f (as.getD q 0) c) = List.zipWith f as (w.set q c)
  | [], [], q, c, _, hq => absurd hq (Nat.not_lt_zero _)
  | [], _ :: _, _, _, h, _ => by simp at h
  | _ :: _, [], _, _, h, _ => by simp at h
  | a :: as, b :: w, 0, c, h, _ => rfl
  | a :: as, b :: w, q + 1, c, h, hq => by
    have := x_zs f as w q c (by simpa using h) (by simpa using hq)
    simp only [List.zipWith_cons_cons, List.set_cons_succ, List.getD_cons_succ]
    rw [this]
theorem xG_set {E : xE} {as : List Nat} {w : xW} {q : Nat} {c : xC} (hl : as.length = w.length) (hq : q < w.length) : (xG E as w).set q (as.getD q 0, xce E as c) = xG E as (w.set q c) :=
  x_zs (fun a c => (a, xce E as c)) as w q c hl hq
theorem xlv_mem {E : xE} {as : List Nat} {ls : xL} {i : Nat} {v : Value} (h : (i, v) ∈ ls) : (i, xcv E as v) ∈ xlv E as ls := List.mem_map.mpr ⟨(i, v), h, rfl⟩
theorem xcv_cat (E : xE) (as : List Nat) (v : Value) : (xcv E as v).category = v.category := by cases v <;> rfl
theorem lv_has_sub {ls : Array Slot} {nL : Nat} {l l' : List (Nat × Value)} (h : lv_has ls nL l) (hs : ∀ q ∈ l', q ∈ l) : lv_has ls nL l' := ⟨h.1, h.2.1, fun q hq => h.2.2 q (hs q hq)⟩
theorem xlv_sto {E : xE} {as : List Nat} {ls l : xL} {i : Nat} {v : Value} (h : ∀ q ∈ l, q = (i, v) ∨ (q ∈ ls ∧ ¬ q.1 = i ∧ ¬ (q.1 + 1 = i ∧ q.2.category = 2))) : ∀ q ∈ xlv E as l, q ∈ (i, xcv E as v) :: (xlv E as ls).filter (fun q => !(q.1 == i) && !(q.1 + 1 == i && q.2.category == 2)) := by
  intro q hq
  obtain ⟨x, hx, rfl⟩ := List.mem_map.mp hq
  rcases h x hx with rfl | ⟨h1, h2, h3⟩
  · exact List.mem_cons_self
  · refine List.mem_cons_of_mem _ (List.mem_filter.mpr ⟨List.mem_map.mpr ⟨x, h1, rfl⟩, ?_⟩)
    show (!(x.1 == i) && !(x.1 + 1 == i && (xcv E as x.2).category == 2)) = true
    rw [xcv_cat]
    simp only [Bool.and_eq_true, Bool.not_eq_true', beq_eq_false_iff_ne, ne_eq, h2, not_false_eq_true, true_and, Bool.and_eq_false_iff]
    by_cases z : x.1 + 1 = i
    · exact Or.inr fun y => h3 ⟨z, y⟩
    · exact Or.inl z
-- growing
theorem x_gd {as nw : List Nat} {q : Nat} (h : q < as.length) : (as ++ nw).getD q 0 = as.getD q 0 := by
  rw [List.getD_eq_getElem?_getD, List.getD_eq_getElem?_getD, List.getElem?_append_left h]
theorem xcv_app {E : xE} {as nw : List Nat} {n : Nat} {v : Value} (hn : n ≤ as.length) (h : xokV n v = true) : xcv E (as ++ nw) v = xcv E as v := by
  cases v with
  | ref q =>
    have h1 : q < n := Nat.le_of_ble_eq_true h
    show Value.ref _ = Value.ref _
    rw [x_gd (Nat.lt_of_lt_of_le h1 hn)]
  | _ => rfl
theorem xcvF_app {E : xE} {as nw : List Nat} {n : Nat} (hn : n ≤ as.length) : ∀ {fs : List Value}, xokF n fs = true → fs.map (xcv E (as ++ nw)) = fs.map (xcv E as)
  | [], _ => rfl
  | v :: r, h => by
    unfold xokF at h
    rw [Bool.and_eq_true] at h
    rw [List.map_cons, List.map_cons, xcv_app hn h.1, xcvF_app hn h.2]
theorem xqv_app {as nw : List Nat} {n : Nat} (hn : n ≤ as.length) : ∀ {xs : List (Option Nat)}, xokQ n xs = true → xqv (as ++ nw) xs = xqv as xs := by
  intro xs h
  funext j
  show ((xs.getD j none).map _) = ((xs.getD j none).map _)
  have key : ∀ (xs : List (Option Nat)) (j : Nat), xokQ n xs = true → ∀ q, xs.getD j none = some q → q < n := by
    intro xs
    induction xs with
    | nil => intro j _ q hq; simp at hq
    | cons a r ih =>
      intro j h q hq
      cases a with
      | none =>
        cases j with
        | zero => simp at hq
        | succ j => exact ih j h q (by simpa using hq)
      | some b =>
        unfold xokQ at h
        rw [Bool.and_eq_true] at h
        cases j with
        | zero =>
          simp at hq
          subst hq
          exact Nat.le_of_ble_eq_true h.1
        | succ j => exact ih j h.2 q (by simpa using hq)
  cases hx : xs.getD j none with
  | none => rfl
  | some q =>
    have := key xs j h q hx
    simp only [Option.map_some]
    rw [x_gd (Nat.lt_of_lt_of_le this hn)]
theorem xce_app {E : xE} {as nw : List Nat} {n : Nat} (hn : n ≤ as.length) {c : xC} (h : xokC n c = true) : xce E (as ++ nw) c = xce E as c := by
  match c, h with
  | .inl a, _ => rfl
  | .inr (.inl (t, xs)), h => exact congrArg (fun f : Nat → Option Nat => (Sum.inl (xct E t, xs.length, .inr (.inr (.inr (.inr f)))) : va_E)) (xqv_app (nw := nw) hn h)
  | .inr (.inr (ci, fs)), h => exact congrArg (fun f : List Value => (Sum.inr (ci, f) : va_E)) (xcvF_app (nw := nw) hn h)
theorem xlv_app {E : xE} {as nw : List Nat} {n : Nat} (hn : n ≤ as.length) : ∀ {ls : xL}, xokL n ls = true → xlv E (as ++ nw) ls = xlv E as ls
  | [], _ => rfl
  | q :: r, h => by
    unfold xokL at h
    rw [Bool.and_eq_true] at h
    have := xlv_app (E := E) (as := as) (nw := nw) hn h.2
    unfold xlv at this ⊢
    rw [List.map_cons, List.map_cons, xcv_app hn h.1, this]
theorem xokW_get {n : Nat} : ∀ {w : xW} {k : Nat} {c : xC}, xokW n w = true → w[k]? = some c → xokC n c = true
  | [], k, c, _, h => by simp at h
  | b :: w, 0, c, h, e => by
    unfold xokW at h
    rw [Bool.and_eq_true] at h
    simp at e
    subst e
    exact h.1
  | b :: w, k + 1, c, h, e => by
    unfold xokW at h
    rw [Bool.and_eq_true] at h
    exact xokW_get (w := w) (k := k) h.2 (by simpa using e)
theorem xG_push {E : xE} {as : List Nat} {w : xW} {a : Nat} {c : xC} (hl : as.length = w.length) (h : xokW w.length w = true) : xG E (as ++ [a]) (w ++ [c]) = xG E as w ++ [(a, xce E (as ++ [a]) c)] := by
  have h1 : List.zipWith (fun a' c' => (a', xce E (as ++ [a]) c')) as w = List.zipWith (fun a' c' => (a', xce E as c')) as w := by
    apply List.ext_getElem?
    intro k
    rw [List.getElem?_zipWith, List.getElem?_zipWith]
    cases hw : w[k]? with
    | none => cases as[k]? <;> rfl
    | some b =>
      cases ha : as[k]? with
      | none => rfl
      | some x =>
        simp only []
        rw [xce_app (by omega) (xokW_get h hw)]
  unfold xG
  rw [List.zipWith_append hl, h1]
  rfl
