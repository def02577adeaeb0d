/-! ===== one instruction of a run is one of the machine ===== -/
def xIS : Nat → Int32 := fun j => ([1, 3, 5, 9, 19, 37, 73] : List Int32).getD j 0
def xNM : Nat → Int32 := fun j => ([100, 98, 109, 110, 120, 98] : List Int32).getD j 0
def xBD : Nat → Int32 := fun j => ([10, 11, 12, 13, 20, 11, 12, 13, 10, 30, 12, 13, 10, 11, 40, 13, 20, 11, 12, 50, 10, 60, 12, 13, 10, 11, 70, 71] : List Int32).getD j 0
def xtb (E : xE) : List (UInt32 × FieldType × Nat × (Nat → Int32)) := [(0, .int, 7, xIS), (1, .char, 6, xNM), (2, .int, 28, xBD), (3, .int, E.2.2.2.1, E.2.2.2.2)]
def xNest : List Cond := [Cond.methodLinkNest "HomeCalls" 9 ⟨"HomeCalls$Street", "<init>", "()V"⟩ "HomeCalls", Cond.methodLinkNest "HomeCalls$Street" 42 ⟨"HomeCalls$Law", "<init>", "()V"⟩ "HomeCalls", Cond.methodLinkNest "HomeCalls" 24 ⟨"HomeCalls$Reader", "<init>", "()V"⟩ "HomeCalls", Cond.methodLinkNest "HomeCalls" 31 ⟨"HomeCalls$Speaker", "<init>", "()V"⟩ "HomeCalls", Cond.methodLinkNest "HomeCalls" 38 ⟨"HomeCalls$Sheet", "<init>", "()V"⟩ "HomeCalls", Cond.methodLinkNest "HomeCalls$Street" 103 ⟨"HomeCalls", "isIn", "(II)Z"⟩ "HomeCalls"]
def xStat (E : xE) (A : Nat → Prop) (U : State) (H : Heap) : Prop := (∀ q ∈ xtb E, va_T q.2.1 (E.2.2.1 q.1) q.2.2.1 (fun j => .int (q.2.2.2 j)) A U H) ∧
  va_Z "HomeCalls" "IS" "[I" (.ref (E.2.2.1 0)) A U H ∧ va_Z "HomeCalls$Reader" "NAMES_OF_USES" "[C" (.ref (E.2.2.1 1)) A U H ∧ va_Z "HomeCalls$Speaker" "BODIES" "[I" (.ref (E.2.2.1 2)) A U H ∧
  (∀ w ∈ xNest, va_Nw w U) ∧ va_AO "HomeCalls$Law" U ∧ va_AO "HomeCalls$Sheet" U
def xCtx (E : xE) (p : Program) (s : State) (m : MethodId) (args : Array Value) (meth : Method) (c : Code) (cc : ByteArray) (own : String) (nL : Nat) (init : Bool) (A : Nat → Prop) : Prop :=
  p.tables.exec = Jvm.exec ∧ c.code = cc ∧ c.maxLocals = nL ∧ s.vm.findClass own = some m.cls ∧ (∀ w ∈ xT, w.before args s = true) ∧ va_K E.1 vwCl (xtys E) s ∧ xStat E A s s.heap ∧ (∀ q : Nat, s.heap.size ≤ q → A q) ∧ (init = true → meth.name = "<init>")
def xWat (E : xE) (R : Room) (p : Program) (l : Launch) (e : Env) (s : State) (m : MethodId) (args : Array Value) (below : List Frame) (meth : Method) (c : Code) (Q : State → Prop) (A : Nat → Prop) (as0 : List Nat) (nL : Nat) (pc : Nat) (ls : xL) (st : List Value) (w : xW) (b : xB) : Prop :=
  ∀ (nw : List Nat) (H : Heap) (locs : List Loc) (la : Array Slot), b.1 ≤ R.cells ∧ b.2 ≤ R.slots → (as0 ++ nw).length = w.length → va_P E.1 vwCl (xG E (as0 ++ nw) w) H → va_D A (xG E (as0 ++ nw) w) → va_S A s.heap H locs → lv_has la nL (xlv E (as0 ++ nw) ls) →
    W p l e R s m args below meth c H locs b.1 b.2 Q (F0 m pc la (st.map (xcv E (as0 ++ nw))))
/-- how a method may end -/
def xRet (Wt : Nat → xL → List Value → xW → xB → Prop) (cc : ByteArray) (rt : Option FieldType) (K : xKo) : Prop := ∀ (pc : Nat) (ls : xL) (w : xW) (b : xB),
  (∀ (v : Int32) (ty : FieldType), decode cc pc = .ok (.ireturn, 1) → rt = some ty → narrow ty (.int v) = .int v → K (some (.int v)) w → Wt pc ls [.int v] w b) ∧
  (∀ q : Nat, decode cc pc = .ok (.areturn, 1) → rt = some (.array .int) → K (some (.ref q)) w → Wt pc ls [.ref q] w b) ∧
  (decode cc pc = .ok (.return_, 1) → rt = none → K none w → Wt pc ls [] w b)
def xOk (E : xE) (R : Room) (own : String) (cc : ByteArray) (nL : Nat) (rt : Option FieldType) (init : Bool) (e : xEl) : Prop :=
  decode cc e.1 = .ok (e.2.1, e.2.2.1) →
  ∀ (p : Program) (l : Launch) (en : Env) (s : State) (m : MethodId) (args : Array Value) (below : List Frame) (meth : Method) (c : Code) (Q : State → Prop) (A : Nat → Prop) (as0 : List Nat) (K : xKo),
    xCtx E p s m args meth c cc own nL init A → xRet (xWat E R p l en s m args below meth c Q A as0 nL) cc rt K →
    ∀ (ls : xL) (st : List Value) (w : xW) (b : xB) (go : xGo), e.2.2.2 ls st w b go K →
      (∀ t ls' st' w' b', go t ls' st' w' b' → xWat E R p l en s m args below meth c Q A as0 nL (match t with | none => e.1 + e.2.2.1 | some q => q) ls' st' w' b') → xWat E R p l en s m args below meth c Q A as0 nL e.1 ls st w b
section OK1
variable {E : xE} {R : Room} {own : String} {cc : ByteArray} {nL : Nat} {rt : Option FieldType} {init : Bool}
theorem ok_iconst (pc : Nat) {n : Int} {v : Int32} (hv : Int32.ofInt n = v) : xOk E R own cc nL rt init (pc, .iconst n, 1, xs_push (.int v)) := by
  intro hd p l en s m args below meth c Q A as0 K C hR ls st w b go h k
  intro nw H locs la hbb hlen hP hD hS hl
  exact lv_iconst C.1 C.2.1 hd hv (k none _ _ _ _ h nw H locs la hbb hlen hP hD hS hl)
theorem ok_bipush (pc : Nat) {n : Int} {v : Int32} (hv : (Int8.ofInt n).toInt32 = v) : xOk E R own cc nL rt init (pc, .bipush n, 2, xs_push (.int v)) := by
  intro hd p l en s m args below meth c Q A as0 K C hR ls st w b go h k
  intro nw H locs la hbb hlen hP hD hS hl
  exact lv_bipush C.1 C.2.1 hd hv (k none _ _ _ _ h nw H locs la hbb hlen hP hD hS hl)
theorem ok_sipush (pc : Nat) {n : Int} {v : Int32} (hv : (Int16.ofInt n).toInt32 = v) : xOk E R own cc nL rt init (pc, .sipush n, 3, xs_push (.int v)) := by
  intro hd p l en s m args below meth c Q A as0 K C hR ls st w b go h k
  intro nw H locs la hbb hlen hP hD hS hl
  exact lv_sipush C.1 C.2.1 hd hv (k none _ _ _ _ h nw H locs la hbb hlen hP hD hS hl)
theorem ok_ldc (pc : Nat) {index : Nat} {v : Int32} (hw : Cond.constant own index v ∈ xT) : xOk E R own cc nL rt init (pc, .ldc index, 2, xs_push (.int v)) := by
  intro hd p l en s m args below meth c Q A as0 K C hR ls st w b go h k
  intro nw H locs la hbb hlen hP hD hS hl
  exact lv_ldc C.1 C.2.1 C.2.2.2.1 (C.2.2.2.2.1 _ hw) hd (k none _ _ _ _ h nw H locs la hbb hlen hP hD hS hl)
theorem ok_ldc2 (pc : Nat) {index : Nat} {v : Int64} (hw : Cond.constantLong own index v ∈ xT) : xOk E R own cc nL rt init (pc, .ldc2_w index, 3, xs_push (.long v)) := by
  intro hd p l en s m args below meth c Q A as0 K C hR ls st w b go h k
  intro nw H locs la hbb hlen hP hD hS hl
  exact lv_ldc2 C.1 C.2.1 C.2.2.2.1 (C.2.2.2.2.1 _ hw) hd (k none _ _ _ _ h nw H locs la hbb hlen hP hD hS hl)
theorem ok_iload_n (pc : Nat) {i : Fin 4} {j : Nat} (hi : (i : Nat) = j) : xOk E R own cc nL rt init (pc, .iload_n i, 1, xs_il j) := by
  intro hd p l en s m args below meth c Q A as0 K C hR ls st w b go h k
  obtain ⟨v, hv, h⟩ := xld_spec h
  split at h
  · intro nw H locs la hbb hlen hP hD hS hl
    exact lv_iload_n C.1 C.2.1 hd hi (hl.2.2 _ (xlv_mem hv)) (k none _ _ _ _ h nw H locs la hbb hlen hP hD hS hl)
  · exact h.elim
theorem ok_iload (pc : Nat) {i : Nat} : xOk E R own cc nL rt init (pc, .iload i, 2, xs_il i) := by
  intro hd p l en s m args below meth c Q A as0 K C hR ls st w b go h k
  obtain ⟨v, hv, h⟩ := xld_spec h
  split at h
  · intro nw H locs la hbb hlen hP hD hS hl
    exact lv_iload C.1 C.2.1 hd (hl.2.2 _ (xlv_mem hv)) (k none _ _ _ _ h nw H locs la hbb hlen hP hD hS hl)
  · exact h.elim
theorem ok_lload_n (pc : Nat) {i : Fin 4} {j : Nat} (hi : (i : Nat) = j) : xOk E R own cc nL rt init (pc, .lload_n i, 1, xs_ll j) := by
  intro hd p l en s m args below meth c Q A as0 K C hR ls st w b go h k
  obtain ⟨v, hv, h⟩ := xld_spec h
  split at h
  · intro nw H locs la hbb hlen hP hD hS hl
    exact lv_lload_n C.1 C.2.1 hd hi (hl.2.2 _ (xlv_mem hv)) (k none _ _ _ _ h nw H locs la hbb hlen hP hD hS hl)
  · exact h.elim
theorem ok_aload_n (pc : Nat) {i : Fin 4} {j : Nat} (hi : (i : Nat) = j) : xOk E R own cc nL rt init (pc, .aload_n i, 1, xs_al j) := by
  intro hd p l en s m args below meth c Q A as0 K C hR ls st w b go h k
  obtain ⟨v, hv, h⟩ := xld_spec h
  split at h
  · intro nw H locs la hbb hlen hP hD hS hl
    exact lv_aload_n C.1 C.2.1 hd hi (hl.2.2 _ (xlv_mem hv)) (k none _ _ _ _ h nw H locs la hbb hlen hP hD hS hl)
  · intro nw H locs la hbb hlen hP hD hS hl
    exact lv_aload_n C.1 C.2.1 hd hi (hl.2.2 _ (xlv_mem hv)) (k none _ _ _ _ h nw H locs la hbb hlen hP hD hS hl)
  · exact h.elim
theorem ok_aload (pc : Nat) {i : Nat} : xOk E R own cc nL rt init (pc, .aload i, 2, xs_al i) := by
  intro hd p l en s m args below meth c Q A as0 K C hR ls st w b go h k
  obtain ⟨v, hv, h⟩ := xld_spec h
  split at h
  · intro nw H locs la hbb hlen hP hD hS hl
    exact lv_aload C.1 C.2.1 hd (hl.2.2 _ (xlv_mem hv)) (k none _ _ _ _ h nw H locs la hbb hlen hP hD hS hl)
  · intro nw H locs la hbb hlen hP hD hS hl
    exact lv_aload C.1 C.2.1 hd (hl.2.2 _ (xlv_mem hv)) (k none _ _ _ _ h nw H locs la hbb hlen hP hD hS hl)
  · exact h.elim
theorem ok_istore_n (pc : Nat) {i : Fin 4} {j : Nat} (hi : (i : Nat) = j) (hj : j < nL) : xOk E R own cc nL rt init (pc, .istore_n i, 1, xs_is j) := by
  intro hd p l en s m args below meth c Q A as0 K C hR ls st w b go h k
  unfold xs_is at h
  dsimp only at h
  split at h
  · obtain ⟨l2, h, hs⟩ := xsto_spec h
    intro nw H locs la hbb hlen hP hD hS hl
    exact lv_istore_n C.1 C.2.1 hd hi hl hj rfl (fun ls' hl' => k none _ _ _ _ h nw H locs ls' hbb hlen hP hD hS (lv_has_sub hl' (xlv_sto hs)))
  · exact h.elim
theorem ok_istore (pc : Nat) {j : Nat} (hj : j < nL) : xOk E R own cc nL rt init (pc, .istore j, 2, xs_is j) := by
  intro hd p l en s m args below meth c Q A as0 K C hR ls st w b go h k
  unfold xs_is at h
  dsimp only at h
  split at h
  · obtain ⟨l2, h, hs⟩ := xsto_spec h
    intro nw H locs la hbb hlen hP hD hS hl
    exact lv_istore C.1 C.2.1 hd hl hj rfl (fun ls' hl' => k none _ _ _ _ h nw H locs ls' hbb hlen hP hD hS (lv_has_sub hl' (xlv_sto hs)))
  · exact h.elim
theorem ok_astore_n (pc : Nat) {i : Fin 4} {j : Nat} (hi : (i : Nat) = j) (hj : j < nL) : xOk E R own cc nL rt init (pc, .astore_n i, 1, xs_as j) := by
  intro hd p l en s m args below meth c Q A as0 K C hR ls st w b go h k
  unfold xs_as at h
  dsimp only at h
  split at h
  · obtain ⟨l2, h, hs⟩ := xsto_spec h
    intro nw H locs la hbb hlen hP hD hS hl
    exact lv_astore_n C.1 C.2.1 hd hi hl hj rfl (fun ls' hl' => k none _ _ _ _ h nw H locs ls' hbb hlen hP hD hS (lv_has_sub hl' (xlv_sto hs)))
  · exact h.elim
theorem ok_astore (pc : Nat) {j : Nat} (hj : j < nL) : xOk E R own cc nL rt init (pc, .astore j, 2, xs_as j) := by
  intro hd p l en s m args below meth c Q A as0 K C hR ls st w b go h k
  unfold xs_as at h
  dsimp only at h
  split at h
  · obtain ⟨l2, h, hs⟩ := xsto_spec h
    intro nw H locs la hbb hlen hP hD hS hl
    exact lv_astore C.1 C.2.1 hd hl hj rfl (fun ls' hl' => k none _ _ _ _ h nw H locs ls' hbb hlen hP hD hS (lv_has_sub hl' (xlv_sto hs)))
  · exact h.elim
theorem ok_iinc (pc : Nat) {j : Nat} {n : Int} {d : Int32} (hd' : Int32.ofInt n = d) (hj : j < nL) : xOk E R own cc nL rt init (pc, .iinc j n, 3, xs_iinc j d) := by
  intro hd p l en s m args below meth c Q A as0 K C hR ls st w b go h k
  obtain ⟨v, hv, h⟩ := xld_spec h
  split at h
  · next x =>
    obtain ⟨l2, h, hs⟩ := xsto_spec h
    intro nw H locs la hbb hlen hP hD hS hl
    obtain ⟨kk, hk⟩ := List.getElem?_of_mem (xlv_mem (E := E) (as := as0 ++ nw) hv)
    exact lv_iinc (v := x + d) C.1 C.2.1 hd hl hk (by rw [hd']) hj rfl (fun ls' hl' => k none _ _ _ _ h nw H locs ls' hbb hlen hP hD hS (lv_has_sub hl' (xlv_sto hs)))
  · exact h.elim
theorem ok_iadd (pc : Nat) : xOk E R own cc nL rt init (pc, .iadd, 1, xs_b2 (fun x y => x + y)) := by
  intro hd p l en s m args below meth c Q A as0 K C hR ls st w b go h k
  unfold xs_b2 at h
  dsimp only at h
  split at h
  · intro nw H locs la hbb hlen hP hD hS hl
    exact lv_iadd C.1 C.2.1 hd (k none _ _ _ _ h nw H locs la hbb hlen hP hD hS hl)
  · exact h.elim
theorem ok_isub (pc : Nat) : xOk E R own cc nL rt init (pc, .isub, 1, xs_b2 (fun x y => x - y)) := by
  intro hd p l en s m args below meth c Q A as0 K C hR ls st w b go h k
  unfold xs_b2 at h
  dsimp only at h
  split at h
  · intro nw H locs la hbb hlen hP hD hS hl
    exact lv_isub C.1 C.2.1 hd (k none _ _ _ _ h nw H locs la hbb hlen hP hD hS hl)
  · exact h.elim
theorem ok_imul (pc : Nat) : xOk E R own cc nL rt init (pc, .imul, 1, xs_b2 (fun x y => x * y)) := by
  intro hd p l en s m args below meth c Q A as0 K C hR ls st w b go h k
  unfold xs_b2 at h
  dsimp only at h
  split at h
  · intro nw H locs la hbb hlen hP hD hS hl
    exact lv_imul C.1 C.2.1 hd (k none _ _ _ _ h nw H locs la hbb hlen hP hD hS hl)
  · exact h.elim
theorem ok_iand (pc : Nat) : xOk E R own cc nL rt init (pc, .iand, 1, xs_b2 (fun x y => x &&& y)) := by
  intro hd p l en s m args below meth c Q A as0 K C hR ls st w b go h k
  unfold xs_b2 at h
  dsimp only at h
  split at h
  · intro nw H locs la hbb hlen hP hD hS hl
    exact lv_iand C.1 C.2.1 hd (k none _ _ _ _ h nw H locs la hbb hlen hP hD hS hl)
  · exact h.elim
theorem ok_ior (pc : Nat) : xOk E R own cc nL rt init (pc, .ior, 1, xs_b2 (fun x y => x ||| y)) := by
  intro hd p l en s m args below meth c Q A as0 K C hR ls st w b go h k
  unfold xs_b2 at h
  dsimp only at h
  split at h
  · intro nw H locs la hbb hlen hP hD hS hl
    exact lv_ior C.1 C.2.1 hd (k none _ _ _ _ h nw H locs la hbb hlen hP hD hS hl)
  · exact h.elim
theorem ok_ixor (pc : Nat) : xOk E R own cc nL rt init (pc, .ixor, 1, xs_b2 (fun x y => x ^^^ y)) := by
  intro hd p l en s m args below meth c Q A as0 K C hR ls st w b go h k
  unfold xs_b2 at h
  dsimp only at h
  split at h
  · intro nw H locs la hbb hlen hP hD hS hl
    exact lv_ixor C.1 C.2.1 hd (k none _ _ _ _ h nw H locs la hbb hlen hP hD hS hl)
  · exact h.elim
theorem ok_ishl (pc : Nat) : xOk E R own cc nL rt init (pc, .ishl, 1, xs_b2 (fun x y => x <<< (y &&& 31))) := by
  intro hd p l en s m args below meth c Q A as0 K C hR ls st w b go h k
  unfold xs_b2 at h
  dsimp only at h
  split at h
  · intro nw H locs la hbb hlen hP hD hS hl
    exact lv_ishl C.1 C.2.1 hd (k none _ _ _ _ h nw H locs la hbb hlen hP hD hS hl)
  · exact h.elim
theorem ok_ishr (pc : Nat) : xOk E R own cc nL rt init (pc, .ishr, 1, xs_b2 (fun x y => x >>> (y &&& 31))) := by
  intro hd p l en s m args below meth c Q A as0 K C hR ls st w b go h k
  unfold xs_b2 at h
  dsimp only at h
  split at h
  · intro nw H locs la hbb hlen hP hD hS hl
    exact lv_ishr C.1 C.2.1 hd (k none _ _ _ _ h nw H locs la hbb hlen hP hD hS hl)
  · exact h.elim
theorem ok_iushr (pc : Nat) : xOk E R own cc nL rt init (pc, .iushr, 1, xs_b2 (fun x y => (x.toUInt32 >>> (y.toUInt32 &&& Int32.toUInt32 31)).toInt32)) := by
  intro hd p l en s m args below meth c Q A as0 K C hR ls st w b go h k
  unfold xs_b2 at h
  dsimp only at h
  split at h
  · intro nw H locs la hbb hlen hP hD hS hl
    exact lv_iushr C.1 C.2.1 hd rfl (k none _ _ _ _ h nw H locs la hbb hlen hP hD hS hl)
  · exact h.elim
theorem ok_idiv (pc : Nat) : xOk E R own cc nL rt init (pc, .idiv, 1, xs_div) := by
  intro hd p l en s m args below meth c Q A as0 K C hR ls st w b go h k
  unfold xs_div at h
  dsimp only at h
  split at h
  · intro nw H locs la hbb hlen hP hD hS hl
    exact lv_idiv C.1 C.2.1 hd h.1 (k none _ _ _ _ h.2 nw H locs la hbb hlen hP hD hS hl)
  · exact h.elim
theorem ok_irem (pc : Nat) : xOk E R own cc nL rt init (pc, .irem, 1, xs_rem) := by
  intro hd p l en s m args below meth c Q A as0 K C hR ls st w b go h k
  unfold xs_rem at h
  dsimp only at h
  split at h
  · intro nw H locs la hbb hlen hP hD hS hl
    exact lv_irem C.1 C.2.1 hd h.1 (k none _ _ _ _ h.2 nw H locs la hbb hlen hP hD hS hl)
  · exact h.elim
theorem ok_ineg (pc : Nat) : xOk E R own cc nL rt init (pc, .ineg, 1, xs_u1 (fun x => -x)) := by
  intro hd p l en s m args below meth c Q A as0 K C hR ls st w b go h k
  unfold xs_u1 at h
  dsimp only at h
  split at h
  · intro nw H locs la hbb hlen hP hD hS hl
    exact lv_ineg C.1 C.2.1 hd (k none _ _ _ _ h nw H locs la hbb hlen hP hD hS hl)
  · exact h.elim
theorem ok_i2b (pc : Nat) : xOk E R own cc nL rt init (pc, .i2b, 1, xs_u1 (fun x => x.toInt8.toInt32)) := by
  intro hd p l en s m args below meth c Q A as0 K C hR ls st w b go h k
  unfold xs_u1 at h
  dsimp only at h
  split at h
  · intro nw H locs la hbb hlen hP hD hS hl
    exact lv_i2b C.1 C.2.1 hd rfl (k none _ _ _ _ h nw H locs la hbb hlen hP hD hS hl)
  · exact h.elim
theorem ok_i2s (pc : Nat) : xOk E R own cc nL rt init (pc, .i2s, 1, xs_u1 (fun x => x.toInt16.toInt32)) := by
  intro hd p l en s m args below meth c Q A as0 K C hR ls st w b go h k
  unfold xs_u1 at h
  dsimp only at h
  split at h
  · intro nw H locs la hbb hlen hP hD hS hl
    exact lv_i2s C.1 C.2.1 hd rfl (k none _ _ _ _ h nw H locs la hbb hlen hP hD hS hl)
  · exact h.elim
theorem ok_i2l (pc : Nat) : xOk E R own cc nL rt init (pc, .i2l, 1, xs_i2l) := by
  intro hd p l en s m args below meth c Q A as0 K C hR ls st w b go h k
  unfold xs_i2l at h
  dsimp only at h
  split at h
  · intro nw H locs la hbb hlen hP hD hS hl
    exact lv_i2l C.1 C.2.1 hd rfl (k none _ _ _ _ h nw H locs la hbb hlen hP hD hS hl)
  · exact h.elim
theorem ok_l2i (pc : Nat) : xOk E R own cc nL rt init (pc, .l2i, 1, xs_l2i) := by
  intro hd p l en s m args below meth c Q A as0 K C hR ls st w b go h k
  unfold xs_l2i at h
  dsimp only at h
  split at h
  · intro nw H locs la hbb hlen hP hD hS hl
    exact lv_l2i C.1 C.2.1 hd rfl (k none _ _ _ _ h nw H locs la hbb hlen hP hD hS hl)
  · exact h.elim
theorem ok_land (pc : Nat) : xOk E R own cc nL rt init (pc, .land, 1, xs_l2 (fun x y => x &&& y)) := by
  intro hd p l en s m args below meth c Q A as0 K C hR ls st w b go h k
  unfold xs_l2 at h
  dsimp only at h
  split at h
  · intro nw H locs la hbb hlen hP hD hS hl
    exact lv_land C.1 C.2.1 hd (k none _ _ _ _ h nw H locs la hbb hlen hP hD hS hl)
  · exact h.elim
theorem ok_lor (pc : Nat) : xOk E R own cc nL rt init (pc, .lor, 1, xs_l2 (fun x y => x ||| y)) := by
  intro hd p l en s m args below meth c Q A as0 K C hR ls st w b go h k
  unfold xs_l2 at h
  dsimp only at h
  split at h
  · intro nw H locs la hbb hlen hP hD hS hl
    exact lv_lor C.1 C.2.1 hd (k none _ _ _ _ h nw H locs la hbb hlen hP hD hS hl)
  · exact h.elim
theorem ok_lshl (pc : Nat) : xOk E R own cc nL rt init (pc, .lshl, 1, xs_lsh (fun x y => x <<< (y.toInt64 &&& 63))) := by
  intro hd p l en s m args below meth c Q A as0 K C hR ls st w b go h k
  unfold xs_lsh at h
  dsimp only at h
  split at h
  · intro nw H locs la hbb hlen hP hD hS hl
    exact lv_lshl C.1 C.2.1 hd rfl (k none _ _ _ _ h nw H locs la hbb hlen hP hD hS hl)
  · exact h.elim
theorem ok_lshr (pc : Nat) : xOk E R own cc nL rt init (pc, .lshr, 1, xs_lsh (fun x y => x >>> (y.toInt64 &&& 63))) := by
  intro hd p l en s m args below meth c Q A as0 K C hR ls st w b go h k
  unfold xs_lsh at h
  dsimp only at h
  split at h
  · intro nw H locs la hbb hlen hP hD hS hl
    exact lv_lshr C.1 C.2.1 hd rfl (k none _ _ _ _ h nw H locs la hbb hlen hP hD hS hl)
  · exact h.elim
theorem ok_lushr (pc : Nat) : xOk E R own cc nL rt init (pc, .lushr, 1, xs_lsh (fun x y => (x.toUInt64 >>> (y.toInt64.toUInt64 &&& Int64.toUInt64 63)).toInt64)) := by
  intro hd p l en s m args below meth c Q A as0 K C hR ls st w b go h k
  unfold xs_lsh at h
  dsimp only at h
  split at h
  · intro nw H locs la hbb hlen hP hD hS hl
    exact lv_lushr C.1 C.2.1 hd rfl (k none _ _ _ _ h nw H locs la hbb hlen hP hD hS hl)
  · exact h.elim
theorem ok_dup2 (pc : Nat) : xOk E R own cc nL rt init (pc, .dup2, 1, xs_dup2) := by
  intro hd p l en s m args below meth c Q A as0 K C hR ls st w b go h k
  unfold xs_dup2 at h
  dsimp only at h
  split at h
  · intro nw H locs la hbb hlen hP hD hS hl
    exact lv_dup2_11 C.1 C.2.1 hd rfl rfl (k none _ _ _ _ h nw H locs la hbb hlen hP hD hS hl)
  · exact h.elim
theorem ok_pop (pc : Nat) : xOk E R own cc nL rt init (pc, .pop, 1, xs_pop) := by
  intro hd p l en s m args below meth c Q A as0 K C hR ls st w b go h k
  unfold xs_pop at h
  dsimp only at h
  split at h
  · intro nw H locs la hbb hlen hP hD hS hl
    exact lv_pop C.1 C.2.1 hd rfl (k none _ _ _ _ h nw H locs la hbb hlen hP hD hS hl)
  · exact h.elim
theorem ok_dup (pc : Nat) : xOk E R own cc nL rt init (pc, .dup, 1, xs_dup) := by
  intro hd p l en s m args below meth c Q A as0 K C hR ls st w b go h k
  unfold xs_dup at h
  dsimp only at h
  split at h
  · intro nw H locs la hbb hlen hP hD hS hl
    exact lv_dup C.1 C.2.1 hd rfl (k none _ _ _ _ h nw H locs la hbb hlen hP hD hS hl)
  · intro nw H locs la hbb hlen hP hD hS hl
    exact lv_dup C.1 C.2.1 hd rfl (k none _ _ _ _ h nw H locs la hbb hlen hP hD hS hl)
  · exact h.elim
theorem ok_if_eq (pc : Nat) {off : Int} {tgt : Nat} (ht : (pc : Int) + off = (tgt : Int)) : xOk E R own cc nL rt init (pc, .ifCond .eq off, 3, xs_if (fun x => x = 0) tgt) := by
  intro hd p l en s m args below meth c Q A as0 K C hR ls st w b go h k
  unfold xs_if at h
  dsimp only at h
  split at h
  · intro nw H locs la hbb hlen hP hD hS hl
    exact lv_if_eq C.1 C.2.1 hd ht (fun z => k (some tgt) _ _ _ _ (h.1 z) nw H locs la hbb hlen hP hD hS hl) (fun z => k none _ _ _ _ (h.2 z) nw H locs la hbb hlen hP hD hS hl)
  · exact h.elim
theorem ok_ic_eq (pc : Nat) {off : Int} {tgt : Nat} (ht : (pc : Int) + off = (tgt : Int)) : xOk E R own cc nL rt init (pc, .if_icmp .eq off, 3, xs_ic (fun x y => x = y) tgt) := by
  intro hd p l en s m args below meth c Q A as0 K C hR ls st w b go h k
  unfold xs_ic at h
  dsimp only at h
  split at h
  · intro nw H locs la hbb hlen hP hD hS hl
    exact lv_icmp_eq C.1 C.2.1 hd ht (fun z => k (some tgt) _ _ _ _ (h.1 z) nw H locs la hbb hlen hP hD hS hl) (fun z => k none _ _ _ _ (h.2 z) nw H locs la hbb hlen hP hD hS hl)
  · exact h.elim
theorem ok_if_ne (pc : Nat) {off : Int} {tgt : Nat} (ht : (pc : Int) + off = (tgt : Int)) : xOk E R own cc nL rt init (pc, .ifCond .ne off, 3, xs_ifn (fun x => x = 0) tgt) := by
  intro hd p l en s m args below meth c Q A as0 K C hR ls st w b go h k
  unfold xs_ifn at h
  dsimp only at h
  split at h
  · intro nw H locs la hbb hlen hP hD hS hl
    exact lv_if_ne C.1 C.2.1 hd ht (fun z => k (some tgt) _ _ _ _ (h.1 z) nw H locs la hbb hlen hP hD hS hl) (fun z => k none _ _ _ _ (h.2 z) nw H locs la hbb hlen hP hD hS hl)
  · exact h.elim
theorem ok_ic_ne (pc : Nat) {off : Int} {tgt : Nat} (ht : (pc : Int) + off = (tgt : Int)) : xOk E R own cc nL rt init (pc, .if_icmp .ne off, 3, xs_icn (fun x y => x = y) tgt) := by
  intro hd p l en s m args below meth c Q A as0 K C hR ls st w b go h k
  unfold xs_icn at h
  dsimp only at h
  split at h
  · intro nw H locs la hbb hlen hP hD hS hl
    exact lv_icmp_ne C.1 C.2.1 hd ht (fun z => k (some tgt) _ _ _ _ (h.1 z) nw H locs la hbb hlen hP hD hS hl) (fun z => k none _ _ _ _ (h.2 z) nw H locs la hbb hlen hP hD hS hl)
  · exact h.elim
theorem ok_if_lt (pc : Nat) {off : Int} {tgt : Nat} (ht : (pc : Int) + off = (tgt : Int)) : xOk E R own cc nL rt init (pc, .ifCond .lt off, 3, xs_if (fun x => x < 0) tgt) := by
  intro hd p l en s m args below meth c Q A as0 K C hR ls st w b go h k
  unfold xs_if at h
  dsimp only at h
  split at h
  · intro nw H locs la hbb hlen hP hD hS hl
    exact lv_if_lt C.1 C.2.1 hd ht (fun z => k (some tgt) _ _ _ _ (h.1 z) nw H locs la hbb hlen hP hD hS hl) (fun z => k none _ _ _ _ (h.2 z) nw H locs la hbb hlen hP hD hS hl)
  · exact h.elim
theorem ok_ic_lt (pc : Nat) {off : Int} {tgt : Nat} (ht : (pc : Int) + off = (tgt : Int)) : xOk E R own cc nL rt init (pc, .if_icmp .lt off, 3, xs_ic (fun x y => x < y) tgt) := by
  intro hd p l en s m args below meth c Q A as0 K C hR ls st w b go h k
  unfold xs_ic at h
  dsimp only at h
  split at h
  · intro nw H locs la hbb hlen hP hD hS hl
    exact lv_icmp_lt C.1 C.2.1 hd ht (fun z => k (some tgt) _ _ _ _ (h.1 z) nw H locs la hbb hlen hP hD hS hl) (fun z => k none _ _ _ _ (h.2 z) nw H locs la hbb hlen hP hD hS hl)
  · exact h.elim
theorem ok_if_ge (pc : Nat) {off : Int} {tgt : Nat} (ht : (pc : Int) + off = (tgt : Int)) : xOk E R own cc nL rt init (pc, .ifCond .ge off, 3, xs_if (fun x => 0 ≤ x) tgt) := by
  intro hd p l en s m args below meth c Q A as0 K C hR ls st w b go h k
  unfold xs_if at h
  dsimp only at h
  split at h
  · intro nw H locs la hbb hlen hP hD hS hl
    exact lv_if_ge C.1 C.2.1 hd ht (fun z => k (some tgt) _ _ _ _ (h.1 z) nw H locs la hbb hlen hP hD hS hl) (fun z => k none _ _ _ _ (h.2 z) nw H locs la hbb hlen hP hD hS hl)
  · exact h.elim
theorem ok_ic_ge (pc : Nat) {off : Int} {tgt : Nat} (ht : (pc : Int) + off = (tgt : Int)) : xOk E R own cc nL rt init (pc, .if_icmp .ge off, 3, xs_ic (fun x y => y ≤ x) tgt) := by
  intro hd p l en s m args below meth c Q A as0 K C hR ls st w b go h k
  unfold xs_ic at h
  dsimp only at h
  split at h
  · intro nw H locs la hbb hlen hP hD hS hl
    exact lv_icmp_ge C.1 C.2.1 hd ht (fun z => k (some tgt) _ _ _ _ (h.1 z) nw H locs la hbb hlen hP hD hS hl) (fun z => k none _ _ _ _ (h.2 z) nw H locs la hbb hlen hP hD hS hl)
  · exact h.elim
theorem ok_if_gt (pc : Nat) {off : Int} {tgt : Nat} (ht : (pc : Int) + off = (tgt : Int)) : xOk E R own cc nL rt init (pc, .ifCond .gt off, 3, xs_if (fun x => 0 < x) tgt) := by
  intro hd p l en s m args below meth c Q A as0 K C hR ls st w b go h k
  unfold xs_if at h
  dsimp only at h
  split at h
  · intro nw H locs la hbb hlen hP hD hS hl
    exact lv_if_gt C.1 C.2.1 hd ht (fun z => k (some tgt) _ _ _ _ (h.1 z) nw H locs la hbb hlen hP hD hS hl) (fun z => k none _ _ _ _ (h.2 z) nw H locs la hbb hlen hP hD hS hl)
  · exact h.elim
theorem ok_ic_gt (pc : Nat) {off : Int} {tgt : Nat} (ht : (pc : Int) + off = (tgt : Int)) : xOk E R own cc nL rt init (pc, .if_icmp .gt off, 3, xs_ic (fun x y => y < x) tgt) := by
  intro hd p l en s m args below meth c Q A as0 K C hR ls st w b go h k
  unfold xs_ic at h
  dsimp only at h
  split at h
  · intro nw H locs la hbb hlen hP hD hS hl
    exact lv_icmp_gt C.1 C.2.1 hd ht (fun z => k (some tgt) _ _ _ _ (h.1 z) nw H locs la hbb hlen hP hD hS hl) (fun z => k none _ _ _ _ (h.2 z) nw H locs la hbb hlen hP hD hS hl)
  · exact h.elim
theorem ok_if_le (pc : Nat) {off : Int} {tgt : Nat} (ht : (pc : Int) + off = (tgt : Int)) : xOk E R own cc nL rt init (pc, .ifCond .le off, 3, xs_if (fun x => x ≤ 0) tgt) := by
  intro hd p l en s m args below meth c Q A as0 K C hR ls st w b go h k
  unfold xs_if at h
  dsimp only at h
  split at h
  · intro nw H locs la hbb hlen hP hD hS hl
    exact lv_if_le C.1 C.2.1 hd ht (fun z => k (some tgt) _ _ _ _ (h.1 z) nw H locs la hbb hlen hP hD hS hl) (fun z => k none _ _ _ _ (h.2 z) nw H locs la hbb hlen hP hD hS hl)
  · exact h.elim
theorem ok_ic_le (pc : Nat) {off : Int} {tgt : Nat} (ht : (pc : Int) + off = (tgt : Int)) : xOk E R own cc nL rt init (pc, .if_icmp .le off, 3, xs_ic (fun x y => x ≤ y) tgt) := by
  intro hd p l en s m args below meth c Q A as0 K C hR ls st w b go h k
  unfold xs_ic at h
  dsimp only at h
  split at h
  · intro nw H locs la hbb hlen hP hD hS hl
    exact lv_icmp_le C.1 C.2.1 hd ht (fun z => k (some tgt) _ _ _ _ (h.1 z) nw H locs la hbb hlen hP hD hS hl) (fun z => k none _ _ _ _ (h.2 z) nw H locs la hbb hlen hP hD hS hl)
  · exact h.elim
theorem ok_goto (pc : Nat) {off : Int} {tgt : Nat} (ht : (pc : Int) + off = (tgt : Int)) : xOk E R own cc nL rt init (pc, .goto off, 3, xs_goto tgt) := by
  intro hd p l en s m args below meth c Q A as0 K C hR ls st w b go h k
  intro nw H locs la hbb hlen hP hD hS hl
  exact lv_goto C.1 C.2.1 hd ht (k (some tgt) _ _ _ _ h nw H locs la hbb hlen hP hD hS hl)
theorem xsw_off {x : Int32} {d : Nat} {go : Nat → Prop} {pc : Nat} : ∀ {ps : List (Int32 × Nat)} {qs : List (Int × Int)} {df : Int}, xsw x d go ps → qs = ps.map (fun q => (q.1.toInt, (q.2 : Int) - pc)) → df = (d : Int) - pc → ∃ t : Nat, go t ∧ Op.lookupswitch.offset qs df x.toInt = (t : Int) - pc
  | [], qs, df, h, hq, hd => ⟨d, h, by subst hq; subst hd; rfl⟩
  | q :: r, qs, df, h, hq, hd => by
    subst hq
    rw [List.map_cons, Op.lookupswitch.offset_cons]
    by_cases z : x = q.1
    · exact ⟨q.2, h.1 z, by rw [if_pos (by rw [z])]⟩
    · obtain ⟨t, h1, h2⟩ := xsw_off (pc := pc) (h.2 z) rfl hd
      refine ⟨t, h1, ?_⟩
      rw [if_neg (fun y => z (Int32.toInt_inj.mp y.symm))]
      exact h2
theorem ok_look (pc : Nat) {df : Int} {ps : Array (Int × Int)} {len : Nat} {lst : List (Int32 × Nat)} {d : Nat} (hp : (ps.toList.zip (ps.toList.drop 1)).all (fun (a, next) => a.1 < next.1) = true) (hq : ps.toList = lst.map (fun q => (q.1.toInt, (q.2 : Int) - pc))) (hdf : df = (d : Int) - pc) : xOk E R own cc nL rt init (pc, .lookupswitch df ps, len, xs_sw lst d) := by
  intro hd p l en s m args below meth c Q A as0 K C hR ls st w b go h k
  unfold xs_sw at h
  dsimp only at h
  split at h
  · next x st' =>
    obtain ⟨t, h1, h2⟩ := xsw_off h hq hdf
    intro nw H locs la hbb hlen hP hD hS hl
    exact lv_lookup (tgt := t) C.1 C.2.1 hd hp h2 (by omega) (k (some t) _ _ _ _ h1 nw H locs la hbb hlen hP hD hS hl)
  · exact h.elim
theorem xsw_in {x : Int32} {d : Nat} {go : Nat → Prop} : ∀ {ps : List (Int32 × Nat)}, xsw x d go ps → (∃ (i : Nat) (t : Nat), ps[i]? = some (x, t) ∧ go t) ∨ ((∀ q ∈ ps, ¬ x = q.1) ∧ go d)
  | [], h => Or.inr ⟨fun q hq => by (cases hq), h⟩
  | q :: r, h => by
    by_cases z : x = q.1
    · exact Or.inl ⟨0, q.2, by rw [z]; rfl, h.1 z⟩
    · rcases xsw_in (h.2 z) with ⟨i, t, h1, h2⟩ | ⟨h1, h2⟩
      · exact Or.inl ⟨i + 1, t, by rw [List.getElem?_cons_succ]; exact h1, h2⟩
      · refine Or.inr ⟨fun y hy => ?_, h2⟩
        rcases List.mem_cons.mp hy with rfl | hy
        · exact z
        · exact h1 y hy
/-- the numbers go on from lo, one by one -/
def xtbl (pc : Nat) (lo : Int) (offs : Array Int) : Nat → List (Int32 × Nat) → Bool
  | _, [] => true
  | i, q :: r => decide (q.1.toInt = lo + (i : Int)) && (decide (offs[i]? = some ((q.2 : Int) - (pc : Int))) && xtbl pc lo offs (i + 1) r)
theorem xtbl_at {pc : Nat} {lo : Int} {offs : Array Int} : ∀ {ps : List (Int32 × Nat)} {j i : Nat} {q : Int32 × Nat}, xtbl pc lo offs j ps = true → ps[i]? = some q → q.1.toInt = lo + ((j + i : Nat) : Int) ∧ offs[j + i]? = some ((q.2 : Int) - (pc : Int))
  | [], j, i, q, _, h => by simp at h
  | a :: r, j, 0, q, h, e => by
    simp only [List.getElem?_cons_zero, Option.some.injEq] at e
    subst e
    unfold xtbl at h
    rw [Bool.and_eq_true, Bool.and_eq_true] at h
    exact ⟨of_decide_eq_true h.1, of_decide_eq_true h.2.1⟩
  | a :: r, j, i + 1, q, h, e => by
    unfold xtbl at h
    rw [Bool.and_eq_true, Bool.and_eq_true] at h
    have := xtbl_at (j := j + 1) (i := i) h.2.2 (by rw [List.getElem?_cons_succ] at e; exact e)
    rw [show j + (i + 1) = j + 1 + i by omega]
    exact this
theorem ok_table (pc : Nat) {df lo hi : Int} {offs : Array Int} {len : Nat} {lst : List (Int32 × Nat)} {d : Nat} (hq : xtbl pc lo offs 0 lst = true) (hn : hi = lo + (lst.length : Int) - 1) (hdf : df = (d : Int) - pc) : xOk E R own cc nL rt init (pc, .tableswitch df lo hi offs, len, xs_sw lst d) := by
  intro hd p l en s m args below meth c Q A as0 K C hR ls st w b go h k
  unfold xs_sw at h
  dsimp only at h
  split at h
  · next x st' =>
    intro nw H locs la hbb hlen hP hD hS hl
    rcases xsw_in h with ⟨i, t, h1, h2⟩ | ⟨h1, h2⟩
    · obtain ⟨e1, e2⟩ := xtbl_at hq h1
      rw [Nat.zero_add] at e1 e2
      have hi' : i < lst.length := (List.getElem?_eq_some_iff.mp h1).1
      dsimp only at e1 e2
      exact lv_tableIn (tgt := t) C.1 C.2.1 hd (by omega) (by omega) (by rw [show (x.toInt - lo).toNat = i by omega]; exact e2) (by omega) (k (some t) _ _ _ _ h2 nw H locs la hbb hlen hP hD hS hl)
    · refine lv_tableOut (tgt := d) C.1 C.2.1 hd ?_ (by omega) (k (some d) _ _ _ _ h2 nw H locs la hbb hlen hP hD hS hl)
      by_cases z : x.toInt < lo ∨ hi < x.toInt
      · exact z
      · exfalso
        have hi' : (x.toInt - lo).toNat < lst.length := by omega
        have e := List.getElem?_eq_getElem hi'
        obtain ⟨e1, -⟩ := xtbl_at hq e
        rw [Nat.zero_add] at e1
        exact h1 _ (List.getElem_mem hi') (Int32.toInt_inj.mp (by rw [e1]; omega))
  · exact h.elim
end OK1
