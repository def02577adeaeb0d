/-! ===== a run over pictures: values with .ref k for the k-th cell of the world, .float j for the j-th table that nobody writes; each instruction is a condition in continuation form ===== -/
abbrev xC : Type := (Nat × (Nat → Int32)) ⊕ ((Nat × List (Option Nat)) ⊕ (Nat × List Value))
abbrev xW : Type := List xC
abbrev xL : Type := List (Nat × Value)
abbrev xB : Type := Nat × Nat
abbrev xGo : Type := Option Nat → xL → List Value → xW → xB → Prop
abbrev xKo : Type := Option Value → xW → Prop
abbrev xSem : Type := xL → List Value → xW → xB → xGo → xKo → Prop
abbrev xPT : Type := List Value → xW → xKo → Prop
abbrev xEl : Type := Nat × Instr × Nat × xSem
-- locals
def xld : xL → Nat → (Value → Prop) → Prop
  | [], _, _ => False
  | q :: r, i, k => match Nat.beq q.1 i with
    | true => k q.2
    | false => xld r i k
def xrm : xL → Nat → (xL → Prop) → Prop
  | [], _, k => k []
  | q :: r, i, k => match Nat.beq q.1 i || (Nat.beq (q.1 + 1) i && Nat.beq q.2.category 2) with
    | true => xrm r i k
    | false => xrm r i (fun l => k (q :: l))
def xins : xL → Nat → Value → (xL → Prop) → Prop
  | [], i, v, k => k [(i, v)]
  | q :: r, i, v, k => match Nat.ble q.1 i with
    | true => xins r i v (fun l => k (q :: l))
    | false => k ((i, v) :: q :: r)
def xkeep : List Nat → xL → (xL → Prop) → Prop
  | [], _, k => k []
  | i :: r, ls, k => xld ls i (fun v => xkeep r ls (fun l => k ((i, v) :: l)))
def xsto (ls : xL) (i : Nat) (v : Value) (k : xL → Prop) : Prop := xrm ls i (fun l => xins l i v k)
-- the world
def xrd : xW → Nat → (xC → Prop) → Prop
  | [], _, _ => False
  | c :: _, 0, k => k c
  | _ :: w, n + 1, k => xrd w n k
def xwr : xW → Nat → xC → (xW → Prop) → Prop
  | [], _, _, _ => False
  | _ :: w, 0, c, k => k (c :: w)
  | b :: w, n + 1, c, k => xwr w n c (fun w' => k (b :: w'))
def xfg : List Value → Nat → (Value → Prop) → Prop
  | [], _, _ => False
  | v :: _, 0, k => k v
  | _ :: w, n + 1, k => xfg w n k
def xfs : List Value → Nat → Value → (List Value → Prop) → Prop
  | [], _, _, _ => False
  | _ :: w, 0, c, k => k (c :: w)
  | b :: w, n + 1, c, k => xfs w n c (fun w' => k (b :: w'))
def xpush : xW → xC → (Nat → xW → Prop) → Prop
  | [], c, k => k 0 [c]
  | b :: w, c, k => xpush w c (fun n w' => k (n + 1) (b :: w'))
def xqs : List (Option Nat) → Nat → Option Nat → (List (Option Nat) → Prop) → Prop
  | [], _, _, _ => False
  | _ :: w, 0, c, k => k (c :: w)
  | b :: w, n + 1, c, k => xqs w n c (fun w' => k (b :: w'))
-- renaming
def xix : List Nat → Nat → (Nat → Prop) → Prop
  | [], _, _ => False
  | a :: r, q, k => match Nat.beq a q with
    | true => k 0
    | false => xix r q (fun j => k (j + 1))
def xnt : List Nat → Nat → (Nat → Prop) → Prop
  | [], _, _ => False
  | a :: _, 0, k => k a
  | _ :: r, n + 1, k => xnt r n k
def xdnV (pi : List Nat) (v : Value) (k : Value → Prop) : Prop := match v with
  | .int n => k (.int n)
  | .long n => k (.long n)
  | .ref q => xix pi q (fun j => k (.ref j))
  | .null => k .null
  | _ => False
def xdnF (pi : List Nat) : List Value → (List Value → Prop) → Prop
  | [], k => k []
  | v :: r, k => xdnV pi v (fun v' => xdnF pi r (fun r' => k (v' :: r')))
def xdnQ (pi : List Nat) : List (Option Nat) → (List (Option Nat) → Prop) → Prop
  | [], k => k []
  | none :: r, k => xdnQ pi r (fun r' => k (none :: r'))
  | some q :: r, k => xix pi q (fun j => xdnQ pi r (fun r' => k (some j :: r')))
def xdnC (pi : List Nat) (c : xC) (k : xC → Prop) : Prop := match c with
  | .inl a => k (.inl a)
  | .inr (.inl (t, xs)) => xdnQ pi xs (fun xs' => k (.inr (.inl (t, xs'))))
  | .inr (.inr (ci, fs)) => xdnF pi fs (fun fs' => k (.inr (.inr (ci, fs'))))
def xga (pi : List Nat) (w : xW) : List Nat → (xW → Prop) → Prop
  | [], k => k []
  | i :: r, k => xrd w i (fun c => xdnC pi c (fun c' => xga pi w r (fun w' => k (c' :: w'))))
/-- up again; behind pi's end lie the cells that the callee made, n on in the caller -/
def xupI (n : Nat) : List Nat → Nat → (Nat → Prop) → Prop
  | [], j, k => k (n + j)
  | a :: _, 0, k => k a
  | _ :: r, j + 1, k => xupI n r j k
def xupV (n : Nat) (pi : List Nat) (v : Value) (k : Value → Prop) : Prop := match v with
  | .int n => k (.int n)
  | .long n => k (.long n)
  | .ref q => xupI n pi q (fun j => k (.ref j))
  | .null => k .null
  | _ => False
def xupF (n : Nat) (pi : List Nat) : List Value → (List Value → Prop) → Prop
  | [], k => k []
  | v :: r, k => xupV n pi v (fun v' => xupF n pi r (fun r' => k (v' :: r')))
def xupQ (n : Nat) (pi : List Nat) : List (Option Nat) → (List (Option Nat) → Prop) → Prop
  | [], k => k []
  | none :: r, k => xupQ n pi r (fun r' => k (none :: r'))
  | some q :: r, k => xupI n pi q (fun j => xupQ n pi r (fun r' => k (some j :: r')))
def xupC (n : Nat) (pi : List Nat) (c : xC) (k : xC → Prop) : Prop := match c with
  | .inl a => k (.inl a)
  | .inr (.inl (t, xs)) => xupQ n pi xs (fun xs' => k (.inr (.inl (t, xs'))))
  | .inr (.inr (ci, fs)) => xupF n pi fs (fun fs' => k (.inr (.inr (ci, fs'))))
def xapp : xW → xW → (xW → Prop) → Prop
  | [], w2, k => k w2
  | c :: w, w2, k => xapp w w2 (fun w' => k (c :: w'))
def xupL (n : Nat) (pi : List Nat) : xW → (xW → Prop) → Prop
  | [], k => k []
  | c :: r, k => xupC n pi c (fun c' => xupL n pi r (fun r' => k (c' :: r')))
/-- the callee's cells back into the caller's world; 'g': it may have made new ones -/
def xsc (g : Bool) (n : Nat) (pi : List Nat) : List Nat → xW → xW → (xW → Prop) → Prop
  | [], [], w, k => k w
  | [], c :: r, w, k => match g with
    | true => xupL n pi (c :: r) (fun r' => xapp w r' k)
    | false => False
  | i :: is, c :: r, w, k => xupC n pi c (fun c' => xwr w i c' (fun w' => xsc g n pi is r w' k))
  | _ :: _, [], _, _ => False
-- which cells an argument brings along: an object and what was made with it, an array alone
def xsz (ci : Nat) : Nat := match ci with
  | 0 => 3
  | 1 => 3
  | 2 => 2
  | 3 => 2
  | 4 => 18
  | 5 => 70
  | _ => 11
/-- a written number again, so that sums do not pile up -/
def xforce (n : Nat) (k : Nat → Prop) : Prop := match n with
  | 0 => k 0
  | m + 1 => k (m + 1)
/-- the places from q on that are not among acc yet -/
def xrange (L : Nat) (acc : List Nat) : Nat → Nat → (List Nat → Prop) → Prop
  | 0, _, k => k []
  | n + 1, q, k => xforce q (fun q => match Nat.ble L q || acc.any (fun a => Nat.beq a q) with
    | true => xrange L acc n (q + 1) k
    | false => xrange L acc n (q + 1) (fun r => k (q :: r)))
def xnapp : List Nat → List Nat → (List Nat → Prop) → Prop
  | [], w2, k => k w2
  | c :: w, w2, k => xnapp w w2 (fun w' => k (c :: w'))
def xpi (w : xW) : List Value → List Nat → (List Nat → Prop) → Prop
  | [], acc, k => k acc
  | .ref q :: r, acc, k => xrd w q (fun c => xrange w.length acc (match c with
      | .inr (.inr (ci, _)) => xsz ci
      | _ => 1) q (fun l => xnapp acc l (fun acc2 => xpi w r acc2 k)))
  | _ :: r, acc, k => xpi w r acc k
def xall : List Nat → Nat → Nat → Bool
  | [], i, n => Nat.beq i n
  | a :: r, i, n => Nat.beq a i && xall r (i + 1) n
/-- are all refs of a thing below n: asked before the world grows -/
def xokV (n : Nat) (v : Value) : Bool := match v with
  | .ref q => Nat.blt q n
  | _ => true
def xokF (n : Nat) : List Value → Bool
  | [] => true
  | v :: r => xokV n v && xokF n r
def xokQ (n : Nat) : List (Option Nat) → Bool
  | [] => true
  | some q :: r => Nat.blt q n && xokQ n r
  | none :: r => xokQ n r
def xokC (n : Nat) (c : xC) : Bool := match c with
  | .inl _ => true
  | .inr (.inl (_, xs)) => xokQ n xs
  | .inr (.inr (_, fs)) => xokF n fs
def xokW (n : Nat) : xW → Bool
  | [] => true
  | c :: r => xokC n c && xokW n r
def xokL (n : Nat) : xL → Bool
  | [] => true
  | q :: r => xokV n q.2 && xokL n r
def xok (ls : xL) (st : List Value) (w : xW) : Bool := xokL w.length ls && (xokF w.length st && xokW w.length w)
-- what the instructions do
def xs_push (v : Value) : xSem := fun ls st w b go _ => go none ls (v :: st) w b
def xs_il (i : Nat) : xSem := fun ls st w b go _ => xld ls i (fun v => match v with
  | .int n => go none ls (.int n :: st) w b
  | _ => False)
def xs_ll (i : Nat) : xSem := fun ls st w b go _ => xld ls i (fun v => match v with
  | .long n => go none ls (.long n :: st) w b
  | _ => False)
def xs_al (i : Nat) : xSem := fun ls st w b go _ => xld ls i (fun v => match v with
  | .ref n => go none ls (.ref n :: st) w b
  | .float n => go none ls (.float n :: st) w b
  | _ => False)
def xs_is (i : Nat) : xSem := fun ls st w b go _ => match st with
  | .int n :: st' => xsto ls i (.int n) (fun ls' => go none ls' st' w b)
  | _ => False
def xs_as (i : Nat) : xSem := fun ls st w b go _ => match st with
  | .ref n :: st' => xsto ls i (.ref n) (fun ls' => go none ls' st' w b)
  | _ => False
def xs_iinc (i : Nat) (d : Int32) : xSem := fun ls st w b go _ => xld ls i (fun v => match v with
  | .int n => xsto ls i (.int (n + d)) (fun ls' => go none ls' st w b)
  | _ => False)
def xs_b2 (f : Int32 → Int32 → Int32) : xSem := fun ls st w b go _ => match st with
  | .int y :: .int x :: st' => go none ls (.int (f x y) :: st') w b
  | _ => False
def xs_div : xSem := fun ls st w b go _ => match st with
  | .int y :: .int x :: st' => ¬ y = 0 ∧ go none ls (.int (x / y) :: st') w b
  | _ => False
def xs_rem : xSem := fun ls st w b go _ => match st with
  | .int y :: .int x :: st' => ¬ y = 0 ∧ go none ls (.int (x - x / y * y) :: st') w b
  | _ => False
def xs_u1 (f : Int32 → Int32) : xSem := fun ls st w b go _ => match st with
  | .int x :: st' => go none ls (.int (f x) :: st') w b
  | _ => False
def xs_i2l : xSem := fun ls st w b go _ => match st with
  | .int x :: st' => go none ls (.long x.toInt64 :: st') w b
  | _ => False
def xs_l2i : xSem := fun ls st w b go _ => match st with
  | .long x :: st' => go none ls (.int x.toInt32 :: st') w b
  | _ => False
def xs_l2 (f : Int64 → Int64 → Int64) : xSem := fun ls st w b go _ => match st with
  | .long y :: .long x :: st' => go none ls (.long (f x y) :: st') w b
  | _ => False
def xs_lsh (f : Int64 → Int32 → Int64) : xSem := fun ls st w b go _ => match st with
  | .int y :: .long x :: st' => go none ls (.long (f x y) :: st') w b
  | _ => False
def xs_dup : xSem := fun ls st w b go _ => match st with
  | .int x :: st' => go none ls (.int x :: .int x :: st') w b
  | .ref x :: st' => go none ls (.ref x :: .ref x :: st') w b
  | _ => False
def xs_dup2 : xSem := fun ls st w b go _ => match st with
  | .int x :: .ref y :: st' => go none ls (.int x :: .ref y :: .int x :: .ref y :: st') w b
  | _ => False
def xs_pop : xSem := fun ls st w b go _ => match st with
  | .int _ :: st' => go none ls st' w b
  | _ => False
def xs_if (c : Int32 → Prop) (t : Nat) : xSem := fun ls st w b go _ => match st with
  | .int x :: st' => (c x → go (some t) ls st' w b) ∧ (¬ c x → go none ls st' w b)
  | _ => False
def xs_ic (c : Int32 → Int32 → Prop) (t : Nat) : xSem := fun ls st w b go _ => match st with
  | .int y :: .int x :: st' => (c x y → go (some t) ls st' w b) ∧ (¬ c x y → go none ls st' w b)
  | _ => False
def xs_ifn (c : Int32 → Prop) (t : Nat) : xSem := fun ls st w b go _ => match st with
  | .int x :: st' => (¬ c x → go (some t) ls st' w b) ∧ (c x → go none ls st' w b)
  | _ => False
def xs_icn (c : Int32 → Int32 → Prop) (t : Nat) : xSem := fun ls st w b go _ => match st with
  | .int y :: .int x :: st' => (¬ c x y → go (some t) ls st' w b) ∧ (c x y → go none ls st' w b)
  | _ => False
theorem br_n {c A B : Prop} (a : ¬ c → A) (b : c → B) : (¬ c → A) ∧ (c → B) := ⟨a, b⟩
def xs_goto (t : Nat) : xSem := fun ls st w b go _ => go (some t) ls st w b
def xsw (x : Int32) (d : Nat) (go : Nat → Prop) : List (Int32 × Nat) → Prop
  | [] => go d
  | q :: r => (x = q.1 → go q.2) ∧ (¬ x = q.1 → xsw x d go r)
def xs_sw (ps : List (Int32 × Nat)) (d : Nat) : xSem := fun ls st w b go _ => match st with
  | .int x :: st' => xsw x d (fun t => go (some t) ls st' w b) ps
  | _ => False
def xs_gf (ci k : Nat) : xSem := fun ls st w b go _ => match st with
  | .ref q :: st' => xrd w q (fun c => match c with
    | .inr (.inr (cj, fs)) => match Nat.beq cj ci with
      | true => xfg fs k (fun v => go none ls (v :: st') w b)
      | false => False
    | _ => False)
  | _ => False
def xs_pf (z : Bool) (ci k : Nat) : xSem := fun ls st w b go _ => match st with
  | .int n :: .ref q :: st' => xrd w q (fun c => match c with
    | .inr (.inr (cj, fs)) => match Nat.beq cj ci with
      | true => xfs fs k (.int n) (fun fs' => xwr w q (.inr (.inr (ci, fs'))) (fun w' => match z with
        | true => (n = 0 ∨ n = 1) ∧ go none ls st' w' b
        | false => go none ls st' w' b))
      | false => False
    | _ => False)
  | _ => False
def xs_pfr (ci k : Nat) : xSem := fun ls st w b go _ => match st with
  | .ref n :: .ref q :: st' => xrd w q (fun c => match c with
    | .inr (.inr (cj, fs)) => match Nat.beq cj ci with
      | true => xfs fs k (.ref n) (fun fs' => xwr w q (.inr (.inr (ci, fs'))) (fun w' => go none ls st' w' b))
      | false => False
    | _ => False)
  | _ => False
def xs_tld (j : UInt32) (N : Nat) (f : Nat → Int32) : xSem := fun ls st w b go _ => match st with
  | .int i :: .float t :: st' => t = j ∧ vp_in i N ∧ go none ls (.int (f i.toNatClampNeg) :: st') w b
  | _ => False
def xs_tlen (j : UInt32) (N : Nat) : xSem := fun ls st w b go _ => match st with
  | .float t :: st' => t = j ∧ go none ls (.int (Int32.ofNat N) :: st') w b
  | _ => False
def xs_iald : xSem := fun ls st w b go _ => match st with
  | .int i :: .ref q :: st' => xrd w q (fun c => match c with
    | .inl (n, f) => vp_in i n ∧ go none ls (.int (f i.toNatClampNeg) :: st') w b
    | _ => False)
  | _ => False
def xs_iast : xSem := fun ls st w b go _ => match st with
  | .int v :: .int i :: .ref q :: st' => xrd w q (fun c => match c with
    | .inl (n, f) => vp_in i n ∧ xwr w q (.inl (n, upd f i.toNatClampNeg v)) (fun w' => go none ls st' w' b)
    | _ => False)
  | _ => False
def xs_alen : xSem := fun ls st w b go _ => match st with
  | .ref q :: st' => xrd w q (fun c => match c with
    | .inl (n, _) => go none ls (.int (Int32.ofNat n) :: st') w b
    | _ => False)
  | _ => False
def xaa (i : Int32) (k : Nat → Prop) : Nat → List (Option Nat) → Prop
  | _, [] => True
  | j, some q :: r => (i = Int32.ofNat j → k q) ∧ xaa i k (j + 1) r
  | _, none :: _ => False
def xs_aald (t : Nat) : xSem := fun ls st w b go _ => match st with
  | .int i :: .ref q :: st' => xrd w q (fun c => match c with
    | .inr (.inl (t', xs)) => match Nat.beq t' t with
      | true => vp_in i xs.length ∧ xaa i (fun a => go none ls (.ref a :: st') w b) 0 xs
      | false => False
    | _ => False)
  | _ => False
/-- only at a place that is a written number; the value an object of kind ci -/
def xs_aast (t ci j : Nat) : xSem := fun ls st w b go _ => match st with
  | .ref v :: .int i :: .ref q :: st' => i = Int32.ofNat j ∧ xrd w v (fun c => match c with
    | .inr (.inr (cj, _)) => match Nat.beq cj ci with
      | true => xrd w q (fun c => match c with
        | .inr (.inl (t', xs)) => match Nat.beq t' t with
          | true => xqs xs j (some v) (fun xs' => xwr w q (.inr (.inl (t, xs'))) (fun w' => go none ls st' w' b))
          | false => False
        | _ => False)
      | false => False
    | _ => False)
  | _ => False
def xbud (mc ms k n : Nat) (b : xB) (go : xB → Prop) : Prop := match Nat.beq k 0 && Nat.beq n 0 with
  | true => go b
  | false => match Nat.ble (b.1 + k) mc && Nat.ble (b.2 + n) ms with
    | true => xforce (b.1 + k) (fun x => xforce (b.2 + n) (fun y => go (x, y)))
    | false => False
def xs_new (mc ms ci N : Nat) (fs : List Value) : xSem := fun ls st w b go _ => match xok ls st w with
  | true => xbud mc ms 1 N b (fun b' => xpush w (.inr (.inr (ci, fs))) (fun q w' => go none ls (.ref q :: st) w' b'))
  | false => False
def xs_newa (mc ms N : Nat) : xSem := fun ls st w b go _ => match st with
  | .int i :: st' => i = Int32.ofNat N ∧ match xok ls st' w with
    | true => xbud mc ms 1 N b (fun b' => xpush w (.inl (N, fun _ => 0)) (fun q w' => go none ls (.ref q :: st') w' b'))
    | false => False
  | _ => False
def xs_newq (mc ms t N : Nat) : xSem := fun ls st w b go _ => match st with
  | .int i :: st' => i = Int32.ofNat N ∧ match xok ls st' w with
    | true => xbud mc ms 1 N b (fun b' => xpush w (.inr (.inl (t, List.replicate N none))) (fun q w' => go none ls (.ref q :: st') w' b'))
    | false => False
  | _ => False
def xs_obj : xSem := fun ls st w b go _ => match st with
  | .ref _ :: st' => match Nat.ble (st'.map fun v => v.category).sum 8 with
    | true => go none ls st' w b
    | false => False
  | _ => False
def xs_acopy : xSem := fun ls st w b go _ => match st with
  | .int n :: .int dp :: .ref q1 :: .int sp :: .ref q0 :: st' => match Nat.ble (st'.map fun v => v.category).sum 8 with
    | true => xrd w q0 (fun c0 => match c0 with
      | .inl (n0, f) => xrd w q1 (fun c1 => match c1 with
        | .inl (n1, g) => (¬ sp < 0 ∧ ¬ dp < 0 ∧ ¬ n < 0 ∧ sp.toNatClampNeg + n.toNatClampNeg ≤ n0 ∧ dp.toNatClampNeg + n.toNatClampNeg ≤ n1) ∧ xwr w q1 (.inl (n1, va_cpy f g sp.toNatClampNeg dp.toNatClampNeg n.toNatClampNeg)) (fun w' => go none ls st' w' b)
        | _ => False)
      | _ => False)
    | false => False
  | _ => False
def xpop : Nat → List Value → List Value → (List Value → List Value → Prop) → Prop
  | 0, st, acc, k => k acc st
  | _ + 1, [], _, _ => False
  | n + 1, v :: st, acc, k => xpop n st (v :: acc) k
def xret (n : Nat) (pi : List Nat) (r : Option Value) (st : List Value) (k : List Value → Prop) : Prop := match r with
  | none => k st
  | some v => xupV n pi v (fun v' => k (v' :: st))
def xrck (rc : Option Nat) (av : List Value) (w : xW) (k : Prop) : Prop := match rc with
  | none => k
  | some ci => match av with
    | .ref q :: _ => xrd w q (fun c => match c with
      | .inr (.inr (cj, _)) => match Nat.beq cj ci with
        | true => k
        | false => False
      | _ => False)
    | _ => False
/-- is the callee's world surely the caller's: its receiver is the first cell, and brings all along -/
def xself (av : List Value) (w : xW) : Bool := match av with
  | .ref q :: _ => Nat.beq q 0 && (match w with
    | .inr (.inr (ci, _)) :: _ => Nat.beq (xsz ci) w.length
    | _ => false)
  | _ => false
/-- a call: 'rc' the receiver's kind (none: a static method), n values, what it answers by C; g: it may make cells (kc of ks slots) -/
def xs_call (g : Bool) (mc ms kc ks : Nat) (rc : Option Nat) (n : Nat) (C : xPT) : xSem := fun ls st w b go _ => xpop n st [] (fun av st' => match Nat.ble (st'.map fun v => v.category).sum 8 && (!g || xok ls (av ++ st') w) with
  | true => xbud mc ms kc ks b (fun b' => xrck rc av w (match !g && xself av w with
    | true => ∀ X : xPT, X = C → X av w (fun r w' => match Nat.beq w'.length w.length with
      | true => (match r with
        | none => go none ls st' w' b'
        | some v => go none ls (v :: st') w' b')
      | false => False)
    | false => xpi w av [] (fun pi => xdnF pi av (fun av' => xga pi w pi (fun lw => ∀ X : xPT, X = C → X av' lw (fun r lw' => xsc g w.length pi pi lw' w (fun w' => xret w.length pi r st' (fun st2 => go none ls st2 w' b'))))))))
  | false => False)
def xs_iret (z : Bool) : xSem := fun _ st w _ _ K => match st with
  | [.int v] => (match z with
    | true => (v = 0 ∨ v = 1) ∧ K (some (.int v)) w
    | false => K (some (.int v)) w)
  | _ => False
def xs_aret : xSem := fun _ st w _ _ K => match st with
  | [.ref v] => K (some (.ref v)) w
  | _ => False
def xs_ret : xSem := fun _ st w _ _ K => match st with
  | [] => K none w
  | _ => False
-- the run
def xseek : List xEl → Nat → List xEl
  | [], _ => []
  | e :: r, t => match Nat.beq e.1 t with
    | true => e :: r
    | false => xseek r t
def xcut (pc : Nat) : List (Nat × List Nat) → Option (List Nat)
  | [] => none
  | q :: r => match Nat.beq q.1 pc with
    | true => some q.2
    | false => xcut pc r
def xrun (prog : List xEl) (cuts : List (Nat × List Nat)) (P : Nat → xL → List Value → xW → xB → Prop) (K : xKo) : Nat → List xEl → xL → List Value → xW → xB → Prop
  | 0, _, _, _, _, _ => False
  | _ + 1, [], _, _, _, _ => False
  | n + 1, e :: r, ls, st, w, b => e.2.2.2 ls st w b (fun t ls' st' w' b' => match (match t with
      | none => r
      | some q => xseek prog q) with
    | [] => False
    | e' :: r' => match xcut e'.1 cuts with
      | some ks => xkeep ks ls' (fun l => P e'.1 l st' w' b')
      | none => xrun prog cuts P K n (e' :: r') ls' st' w' b') K
/-- from a place of the program on: the least condition that is closed under runs -/
def xWP (prog : List xEl) (K : xKo) (pc : Nat) (ls : xL) (st : List Value) (w : xW) (b : xB) : Prop :=
  ∀ P : Nat → xL → List Value → xW → xB → Prop, (∀ n cuts pc ls st w b, xrun prog cuts P K n (xseek prog pc) ls st w b → P pc ls st w b) → P pc ls st w b
/-- a method: its contract as a condition on what comes after it -/
def xM (n : Nat) (prog : List xEl) : xPT := fun av w K => match Nat.ble (lg_sl av).length n with
  | true => xWP prog K 0 (lv_args 0 av) [] w (0, 0)
  | false => False
