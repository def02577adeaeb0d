/-! ===== calls by contract; a method's contract out of its run ===== -/
def xR (d mc ms : Nat) : Room := { frames := d + 1, cells := mc, slots := ms, locals := 60 * (d + 1) }
def xPre (E : xE) (as : List Nat) (w : xW) (sz : Nat) (U : State) : Prop := U.heap.size = sz ∧ as.length = w.length ∧ va_P E.1 vwCl (xG E as w) U.heap ∧ va_K E.1 vwCl (xtys E) U ∧ va_D (fun _ => True) (xG E as w) ∧ xStat E (va_A (xG E as w) sz) U U.heap
def xQ (E : xE) (as : List Nat) (K : xKo) (A : Nat → Prop) : Array Value → State → Outcome → State → Prop := fun _ st oc t =>
  (∃ (r : Option Value) (w' : xW) (nw : List Nat), oc = .returned (r.map (xcv E (as ++ nw))) ∧ K r w' ∧ (as ++ nw).length = w'.length ∧ va_P E.1 vwCl (xG E (as ++ nw) w') t.heap ∧ va_D A (xG E (as ++ nw) w')) ∧ va_F A st t
/-- a method's contract: what its condition says of its answer and its cells comes true -/
def xSnd (y : MethodName) (cc : ByteArray) (maxL : Nat) (rt : Option FieldType) (d mc ms : Nat) (C : xPT) : Prop := ∀ (l : Launch) (E : xE) (as : List Nat) (sz : Nat) (av : List Value) (w : xW) (K : xKo), C av w K →
  Met l y (.code y cc maxL rt :: xT) (xR d mc ms) (va_Pc (av.map (xcv E as)) (xPre E as w sz)) (xQ E as K (va_A (xG E as w) sz)) mc ms (va_A (xG E as w) sz)
theorem xT_good {w : Cond} (h : w ∈ xT) : (w.onTables && w.keeps) = true ∨ ∃ ty, w = .arrayClass ty := good_of_word (List.mem_filter.mp h).2
theorem x_good {ws : List Cond} (h : ∀ w ∈ ws, w ∈ xT) : GoodIn xT ws := fun w hw => ⟨h w hw, xT_good (h w hw)⟩
theorem xStat_kept {E : xE} {A : Nat → Prop} {U : State} {H H1 : Heap} (h : xStat E A U H) (hq : ∀ a : Nat, a < H.size → ¬ A a → H1[a]? = H[a]?) : xStat E A U H1 :=
  ⟨fun q hq' => (h.1 q hq').kept hq, h.2.1.kept hq, h.2.2.1.kept hq, h.2.2.2.1.kept hq, h.2.2.2.2⟩
theorem xStat_narrow {E : xE} {A B : Nat → Prop} {U : State} {H : Heap} (h : xStat E A U H) (hAB : ∀ q, B q → A q) : xStat E B U H :=
  ⟨fun q hq' => (h.1 q hq').narrow hAB, h.2.1.narrow hAB, h.2.2.1.narrow hAB, h.2.2.2.1.narrow hAB, h.2.2.2.2⟩
theorem xNest_warm {s U : State} (hW : s.WarmedH U.vm) (h : ∀ w ∈ xNest, va_Nw w s) : ∀ w ∈ xNest, va_Nw w U := by
  intro w hw
  have h1 := h w hw
  simp only [xNest, List.mem_cons, List.not_mem_nil, or_false] at hw
  rcases hw with rfl | rfl | rfl | rfl | rfl | rfl <;> exact va_Nw.warmM hW h1
theorem xStat_warm {E : xE} {A : Nat → Prop} {s U : State} {H : Heap} (hW : s.WarmedH U.vm) (h : xStat E A s H) : xStat E A U H :=
  ⟨fun q hq' => (h.1 q hq').moved hW.alike, h.2.1.moved hW.alike, h.2.2.1.moved hW.alike, h.2.2.2.1.moved hW.alike, xNest_warm hW h.2.2.2.2.1, h.2.2.2.2.2.1.moved hW.alike, h.2.2.2.2.2.2.moved hW.alike⟩
theorem xNest_same {u U : State} (e : u.vm = U.vm) (h : ∀ w ∈ xNest, va_Nw w u) : ∀ w ∈ xNest, va_Nw w U := by
  intro w hw
  have h1 := h w hw
  simp only [xNest, List.mem_cons, List.not_mem_nil, or_false] at hw
  rcases hw with rfl | rfl | rfl | rfl | rfl | rfl <;> exact va_Nw.same rfl e h1
theorem xStat_same {E : xE} {A : Nat → Prop} {u U : State} {H : Heap} (e : u.vm = U.vm) (h : xStat E A u H) : xStat E A U H := by
  have ha : u.vm.Alike U.vm := by rw [e]; exact Vm.Alike.refl _
  exact ⟨fun q hq' => (h.1 q hq').moved ha, h.2.1.moved ha, h.2.2.1.moved ha, h.2.2.2.1.moved ha, xNest_same e h.2.2.2.2.1, h.2.2.2.2.2.1.moved ha, h.2.2.2.2.2.2.moved ha⟩
theorem x_blind (E : xE) (as : List Nat) (w : xW) (sz : Nat) (av : List Value) : FrameBlind (va_Pc av (xPre E as w sz)) := by
  intro a U g mk h
  obtain ⟨h1, h2, h3, h4, h5, h6, h7⟩ := h
  exact ⟨h1, h2, h3, h4, va_K.moved (u := U) (U := U.calling g mk a) (Vm.Alike.refl U.vm) h5, h6, xStat_same (u := U) (U := U.calling g mk a) rfl h7⟩
theorem x_after {E : xE} {p : Program} {l : Launch} {en : Env} {R : Room} {s : State} {m : MethodId} {args : Array Value} {below : List Frame} {meth : Method} {c : Code} {H : Heap} {locs : List Loc} {k1 k2 mc ms pc : Nat} {Q : State → Prop} {la : Array Slot} {stk rest : List Value} {asc : List Nat} {K1 : xKo} {A A1 free : Nat → Prop} {a : Array Value}
    (hr : va_Run p l en R s m args below meth c H locs k1 k2 mc ms (F0 m pc la stk) rest (xQ E asc K1 A1 a) free) (hS : va_S A s.heap H locs) (hA : ∀ q, A1 q → A q) (hf : ∀ q, free q → A q)
    (kk : ∀ (r : Option Value) (w' : xW) (nw : List Nat) (H1 : Heap) (locs1 : List Loc), K1 r w' → (asc ++ nw).length = w'.length → va_P E.1 vwCl (xG E (asc ++ nw) w') H1 → va_D A1 (xG E (asc ++ nw) w') → H.size ≤ H1.size → (∀ q : Nat, q < H.size → ¬ A1 q → H1[q]? = H[q]?) → va_S A s.heap H1 locs1 → W p l en R s m args below meth c H1 locs1 (k1 + mc) (k2 + ms) Q (F0 m (pc + 3) la ((r.map (xcv E (asc ++ nw))).toList ++ rest))) :
    W p l en R s m args below meth c H locs k1 k2 Q (F0 m pc la stk) := by
  intro T hT X
  obtain ⟨v, st₀, t, T', L, h0, X', hL, e1, e2, ⟨⟨r, w', nw, hv, hk, hln, hp, hd⟩, hz, hkp⟩, st⟩ := hr T hT X
  cases hv
  rw [h0] at hz hkp
  obtain ⟨t2, a1, b1⟩ := kk r w' nw T'.heap (locs ++ L) hk hln (by rw [e1]; exact hp) hd (by rw [e1]; exact hz) (fun q h1 h2 => by rw [e1]; exact hkp q h1 h2)
    ⟨Nat.le_trans hS.1 (by rw [e1]; exact hz), fun q h1 h2 => by rw [e1, hkp q (Nat.lt_of_lt_of_le h1 hS.1) (fun z => h2 (hA q z))]; exact hS.2.1 q h1 h2, fun q hq => by
      rcases List.mem_append.mp hq with h | h
      · exact hS.2.2 q h
      · exact hf _ (hL q h)⟩ T' rfl X'
  exact ⟨t2, st t2 a1, b1⟩
def xrecv (rc : Option Nat) (av : List Value) (w : xW) : Prop := match rc with
  | none => True
  | some ci => ∃ (q : Nat) (vs fs : List Value), av = .ref q :: vs ∧ w[q]? = some (.inr (.inr (ci, fs)))
theorem xrck_spec {rc : Option Nat} {av : List Value} {w : xW} {k : Prop} (h : xrck rc av w k) : xrecv rc av w ∧ k := by
  unfold xrck at h
  split at h
  · exact ⟨trivial, h⟩
  · split at h
    · obtain ⟨c, hc, h1⟩ := xrd_spec h
      clear h
      split at h1
      · split at h1
        · next e =>
          have e := xbeq e
          subst e
          exact ⟨⟨_, _, _, rfl, hc⟩, h1⟩
        · exact h1.elim
      · exact h1.elim
    · exact h.elim
/-- a call of a method with the contract C -/
def xRunOk (E : xE) (R : Room) (own : String) (cc : ByteArray) (nL : Nat) (init : Bool) (pc : Nat) (rc : Option Nat) (n kc ks : Nat) (C : xPT) : Prop := ∀ (p : Program) (l : Launch) (en : Env) (s : State) (m : MethodId) (args : Array Value) (below : List Frame) (meth : Method) (c : Code) (A : Nat → Prop), xCtx E p s m args meth c cc own nL init A →
  ∀ (asc : List Nat) (lw : xW) (K1 : xKo) (avc : List Value) (H : Heap) (locs : List Loc) (k1 k2 : Nat) (la : Array Slot) (rest : List Value), C avc lw K1 → avc.length = n → asc.length = lw.length → va_P E.1 vwCl (xG E asc lw) H → va_D (fun _ => True) (xG E asc lw) → (∀ q, va_A (xG E asc lw) H.size q → A q) → va_S A s.heap H locs → la.size = nL → (rest.map fun v => v.category).sum ≤ 8 → k1 + kc ≤ R.cells → k2 + ks ≤ R.slots → xrecv rc avc lw →
  va_Run p l en R s m args below meth c H locs k1 k2 kc ks (F0 m pc la ((avc.map (xcv E asc)).reverse ++ rest)) rest (xQ E asc K1 (va_A (xG E asc lw) H.size) ((avc.map (xcv E asc)).toArray)) (va_A (xG E asc lw) H.size)
theorem x_pre {E : xE} {p : Program} {s : State} {m : MethodId} {args : Array Value} {meth : Method} {c : Code} {cc : ByteArray} {own : String} {nL : Nat} {init : Bool} {A : Nat → Prop} (X : xCtx E p s m args meth c cc own nL init A) {asc : List Nat} {lw : xW} {H : Heap} {locs : List Loc} (hl : asc.length = lw.length) (hP : va_P E.1 vwCl (xG E asc lw) H) (hD : va_D (fun _ => True) (xG E asc lw)) (hA : ∀ q, va_A (xG E asc lw) H.size q → A q) (hS : va_S A s.heap H locs) {U : State} (hU : U.heap = H) (hW : s.WarmedH U.vm) : xPre E asc lw H.size U := by
  refine ⟨by rw [hU], hl, by rw [hU]; exact hP, va_K.moved hW.alike X.2.2.2.2.2.1, hD, ?_⟩
  rw [hU]
  exact xStat_narrow (xStat_warm hW (xStat_kept X.2.2.2.2.2.2.1 hS.2.1)) hA
section RUN
variable {E : xE} {R : Room} {own : String} {cc : ByteArray} {nL : Nat} {init : Bool}
variable {y : MethodName} {cy : ByteArray} {maxL : Nat} {rt : Option FieldType} {d kc ks n idx : Nat} {C : xPT}
theorem run_V (pc : Nat) {C0 : String} {ci N : Nat} {T : u_T} (hSn : xSnd y cy maxL rt d kc ks C) (hc : vwCl[ci]? = some (C0, T, N)) (wm : Cond.methodLink own idx y ∈ xT) (wi : Cond.instanceMethod y ∈ xT) (wsl : Cond.selects C0 y y ∈ xT) (wn : Cond.initialized C0 ∈ xT) (wc : Cond.code y cy maxL rt ∈ xT) (hd : y.cls = C0 ∧ y.cls ≠ "java/lang/invoke/MethodHandle" ∧ y.cls ≠ "java/lang/invoke/VarHandle" ∧ (parseMethodDescriptor y.desc).map (fun d => d.parameters.length) = some n) (hR : d + 2 ≤ R.frames ∧ 8 + (maxL + 11) + 60 * (d + 1) ≤ R.locals) (hdg : decode cc pc = .ok (.invokevirtual idx, 3)) : xRunOk E R own cc nL init pc (some ci) (n + 1) kc ks C := by
  intro p l en s m args below meth c A X asc lw K1 avc H locs k1 k2 la rest hC hn hl hP hD hA hS hla hcat h1 h2 hrv
  obtain ⟨q, vs, fs, rfl, hq⟩ := hrv
  have e : ((Value.ref q :: vs).map (xcv E asc)).reverse ++ rest = (vs.map (xcv E asc)).reverse ++ .ref (asc.getD q 0) :: rest := by
    rw [List.map_cons, List.reverse_cons, List.append_assoc]
    rfl
  rw [e]
  have hrec := va_recv X.2.2.2.2.2.1 hP hc (xG_get (E := E) hl hq)
  exact va_runV (As := vs.map (xcv E asc)) (rest := rest) ⟨X.1, X.2.1, X.2.2.1, X.2.2.2.1, X.2.2.2.2.1⟩ (hSn l E asc H.size (.ref q :: vs) lw K1 hC) (cwV (C := C0) n X.2.2.2.2.1 (x_good (fun w hw => by
    simp only [wsV, List.mem_append, List.mem_cons, List.not_mem_nil, or_false] at hw
    rcases hw with (rfl | rfl | rfl | rfl) | rfl | hw
    · exact wm
    · exact wi
    · exact wsl
    · exact wn
    · exact wc
    · exact hw)) rfl rfl rfl hd ⟨hR.1, hR.2⟩) ⟨x_blind _ _ _ _ _, hrec, fun U hU hW => ⟨rfl, x_pre X hl hP hD hA hS hU hW⟩⟩ rfl (by rw [List.length_map]; simpa using hn) hla rfl (lv_room hcat) hdg ⟨h1, h2⟩
theorem run_S (pc : Nat) (hSn : xSnd y cy maxL rt d kc ks C) (wm : Cond.methodLink own idx y ∈ xT) (wi : Cond.static y ∈ xT) (wn : Cond.initialized y.cls ∈ xT) (wc : Cond.code y cy maxL rt ∈ xT) (hd : y.cls ≠ "java/lang/invoke/MethodHandle" ∧ y.cls ≠ "java/lang/invoke/VarHandle" ∧ (parseMethodDescriptor y.desc).map (fun d => d.parameters.length) = some n) (hR : d + 2 ≤ R.frames ∧ 8 + (maxL + 11) + 60 * (d + 1) ≤ R.locals) (hdg : decode cc pc = .ok (.invokestatic idx, 3)) : xRunOk E R own cc nL init pc none n kc ks C := by
  intro p l en s m args below meth c A X asc lw K1 avc H locs k1 k2 la rest hC hn hl hP hD hA hS hla hcat h1 h2 hrv
  exact va_runS (As := avc.map (xcv E asc)) (rest := rest) ⟨X.1, X.2.1, X.2.2.1, X.2.2.2.1, X.2.2.2.2.1⟩ (hSn l E asc H.size avc lw K1 hC) (va_cwS n X.2.2.2.2.1 (x_good (fun w hw => by
    simp only [va_wsS, List.mem_append, List.mem_cons, List.not_mem_nil, or_false] at hw
    rcases hw with (rfl | rfl | rfl) | rfl | hw
    · exact wm
    · exact wi
    · exact wn
    · exact wc
    · exact hw)) rfl rfl rfl hd ⟨hR.1, hR.2⟩) ⟨x_blind _ _ _ _ _, fun U hU hW => ⟨rfl, x_pre X hl hP hD hA hS hU hW⟩⟩ rfl (by rw [List.length_map]; exact hn) hla rfl (lv_room hcat) hdg ⟨h1, h2⟩
theorem run_N (pc : Nat) {host : String} (hSn : xSnd y cy maxL rt d kc ks C) (wm : Cond.methodLinkNest own idx y host ∈ xNest) (wi : Cond.static y ∈ xT) (wn : Cond.initialized y.cls ∈ xT) (wc : Cond.code y cy maxL rt ∈ xT) (hd : y.cls ≠ "java/lang/invoke/MethodHandle" ∧ y.cls ≠ "java/lang/invoke/VarHandle" ∧ (parseMethodDescriptor y.desc).map (fun d => d.parameters.length) = some n) (hR : d + 2 ≤ R.frames ∧ 8 + (maxL + 11) + 60 * (d + 1) ≤ R.locals) (hdg : decode cc pc = .ok (.invokestatic idx, 3)) : xRunOk E R own cc nL init pc none n kc ks C := by
  intro p l en s m args below meth c A X asc lw K1 avc H locs k1 k2 la rest hC hn hl hP hD hA hS hla hcat h1 h2 hrv
  exact va_runSN (As := avc.map (xcv E asc)) (rest := rest) ⟨X.1, X.2.1, X.2.2.1, X.2.2.2.1, X.2.2.2.2.1⟩ (hSn l E asc H.size avc lw K1 hC) ⟨va_cnB n X.2.2.2.2.1 (x_good (fun w hw => by
    rcases List.mem_cons.mp hw with rfl | hw
    · exact wc
    · exact hw)) rfl rfl rfl (X.2.2.2.2.2.2.1.2.2.2.2.1 _ wm) (X.2.2.2.2.1 _ wn) hd ⟨hR.1, hR.2⟩, X.2.2.2.2.1 _ wi, trivial⟩ ⟨x_blind _ _ _ _ _, fun U hU hW => ⟨rfl, x_pre X hl hP hD hA hS hU hW⟩⟩ rfl (by rw [List.length_map]; exact hn) hla rfl (lv_room hcat) hdg ⟨h1, h2⟩
theorem run_I (pc : Nat) {host : String} (hSn : xSnd y cy maxL none d kc ks C) {ci : Nat} (hy1 : y.name = "<init>") (wm : Cond.methodLinkNest own idx y host ∈ xNest) (wi : Cond.instanceMethod y ∈ xT) (wn : Cond.initialized y.cls ∈ xT) (wc : Cond.code y cy maxL none ∈ xT) (hd : y.cls ≠ "java/lang/invoke/MethodHandle" ∧ y.cls ≠ "java/lang/invoke/VarHandle" ∧ (parseMethodDescriptor y.desc).map (fun d => d.parameters.length) = some n) (hR : d + 2 ≤ R.frames ∧ 8 + (maxL + 11) + 60 * (d + 1) ≤ R.locals) (hdg : decode cc pc = .ok (.invokespecial idx, 3)) : xRunOk E R own cc nL init pc (some ci) (n + 1) kc ks C := by
  intro p l en s m args below meth c A X asc lw K1 avc H locs k1 k2 la rest hC hn hl hP hD hA hS hla hcat h1 h2 hrv
  obtain ⟨q, vs, fs, rfl, hq⟩ := hrv
  have e : ((Value.ref q :: vs).map (xcv E asc)).reverse ++ rest = (vs.map (xcv E asc)).reverse ++ .ref (asc.getD q 0) :: rest := by
    rw [List.map_cons, List.reverse_cons, List.append_assoc]
    rfl
  rw [e]
  exact va_runIN (As := vs.map (xcv E asc)) (rest := rest) ⟨X.1, X.2.1, X.2.2.1, X.2.2.2.1, X.2.2.2.2.1⟩ (hSn l E asc H.size (.ref q :: vs) lw K1 hC) ⟨va_cnB n X.2.2.2.2.1 (x_good (fun w hw => by
    rcases List.mem_cons.mp hw with rfl | hw
    · exact wc
    · exact hw)) rfl rfl rfl (X.2.2.2.2.2.2.1.2.2.2.2.1 _ wm) (X.2.2.2.2.1 _ wn) hd ⟨hR.1, hR.2⟩, hy1, X.2.2.2.2.1 _ wi⟩ ⟨x_blind _ _ _ _ _, fun U hU hW => ⟨rfl, x_pre X hl hP hD hA hS hU hW⟩⟩ rfl (by rw [List.length_map]; simpa using hn) hla rfl (lv_room hcat) hdg ⟨h1, h2⟩
theorem run_P (pc : Nat) (hSn : xSnd y cy maxL none d kc ks C) {ci : Nat} (hy1 : y.name = "<init>") (wm : Cond.methodLink own idx y ∈ xT) (wi : Cond.instanceMethod y ∈ xT) (wn : Cond.initialized y.cls ∈ xT) (wc : Cond.code y cy maxL none ∈ xT) (hd : y.cls ≠ "java/lang/invoke/MethodHandle" ∧ y.cls ≠ "java/lang/invoke/VarHandle" ∧ (parseMethodDescriptor y.desc).map (fun d => d.parameters.length) = some n) (hR : d + 2 ≤ R.frames ∧ 8 + (maxL + 11) + 60 * (d + 1) ≤ R.locals) (hdg : decode cc pc = .ok (.invokespecial idx, 3)) : xRunOk E R own cc nL init pc (some ci) (n + 1) kc ks C := by
  intro p l en s m args below meth c A X asc lw K1 avc H locs k1 k2 la rest hC hn hl hP hD hA hS hla hcat h1 h2 hrv
  obtain ⟨q, vs, fs, rfl, hq⟩ := hrv
  have e : ((Value.ref q :: vs).map (xcv E asc)).reverse ++ rest = (vs.map (xcv E asc)).reverse ++ .ref (asc.getD q 0) :: rest := by
    rw [List.map_cons, List.reverse_cons, List.append_assoc]
    rfl
  rw [e]
  exact va_runI (As := vs.map (xcv E asc)) (rest := rest) ⟨X.1, X.2.1, X.2.2.1, X.2.2.2.1, X.2.2.2.2.1⟩ (hSn l E asc H.size (.ref q :: vs) lw K1 hC) (cwI n X.2.2.2.2.1 (x_good (fun w hw => by
    rcases List.mem_cons.mp hw with rfl | hw
    · exact wc
    · exact hw)) rfl rfl rfl (X.2.2.2.2.1 _ wn) (X.2.2.2.2.1 _ wm) (X.2.2.2.2.1 _ wi) hy1 hd ⟨hR.1, hR.2⟩) ⟨x_blind _ _ _ _ _, fun U hU hW => ⟨rfl, x_pre X hl hP hD hA hS hU hW⟩⟩ rfl (by rw [List.length_map]; simpa using hn) hla rfl (lv_room hcat) hdg ⟨h1, h2⟩
end RUN
