section
/-! ===== a run over pictures: values with .ref k for the k-th cell of the world, .float j for the j-th table that nobody writes; each instruction is a condition in continuation form ===== -/
abbrev xC : Type := (Nat × (Nat → Int32)) ⊕ ((Nat × List (Option Nat)) ⊕ (Nat × List Value))
abbrev xW : Type := List xC
abbrev xL : Type := List (Nat × Value)
abbrev xB : Type := Nat × Nat
abbrev xGo : Type := Option Nat → xL → List Value → xW → xB → Prop
abbrev xKo : Type := Option Value → xW → Prop
abbrev xSem : Type := xL → List Value → xW → xB → xGo → xKo → Prop
abbrev xPT : Type := List Value → xW → xKo → Prop
abbrev xEl : Type := Nat × Instr × Nat × xSem
-- locals
def xld : xL → Nat → (Value → Prop) → Prop
  | [], _, _ => False
  | q :: r, i, k => match Nat.beq q.1 i with
    | true => k q.2
    | false => xld r i k
def xrm : xL → Nat → (xL → Prop) → Prop
  | [], _, k => k []
  | q :: r, i, k => match Nat.beq q.1 i || (Nat.beq (q.1 + 1) i && Nat.beq q.2.category 2) with
    | true => xrm r i k
    | false => xrm r i (fun l => k (q :: l))
def xins : xL → Nat → Value → (xL → Prop) → Prop
  | [], i, v, k => k [(i, v)]
  | q :: r, i, v, k => match Nat.ble q.1 i with
    | true => xins r i v (fun l => k (q :: l))
    | false => k ((i, v) :: q :: r)
def xkeep : List Nat → xL → (xL → Prop) → Prop
  | [], _, k => k []
  | i :: r, ls, k => xld ls i (fun v => xkeep r ls (fun l => k ((i, v) :: l)))
def xsto (ls : xL) (i : Nat) (v : Value) (k : xL → Prop) : Prop := xrm ls i (fun l => xins l i v k)
-- the world
def xrd : xW → Nat → (xC → Prop) → Prop
  | [], _, _ => False
  | c :: _, 0, k => k c
  | _ :: w, n + 1, k => xrd w n k
def xwr : xW → Nat → xC → (xW → Prop) → Prop
  | [], _, _, _ => False
  | _ :: w, 0, c, k => k (c :: w)
  | b :: w, n + 1, c, k => xwr w n c (fun w' => k (b :: w'))
def xfg : List Value → Nat → (Value → Prop) → Prop
  | [], _, _ => False
  | v :: _, 0, k => k v
  | _ :: w, n + 1, k => xfg w n k
def xfs : List Value → Nat → Value → (List Value → Prop) → Prop
  | [], _, _, _ => False
  | _ :: w, 0, c, k => k (c :: w)
  | b :: w, n + 1, c, k => xfs w n c (fun w' => k (b :: w'))
def xpush : xW → xC → (Nat → xW → Prop) → Prop
  | [], c, k => k 0 [c]
  | b :: w, c, k => xpush w c (fun n w' => k (n + 1) (b :: w'))
def xqs : List (Option Nat) → Nat → Option Nat → (List (Option Nat) → Prop) → Prop
  | [], _, _, _ => False
  | _ :: w, 0, c, k => k (c :: w)
  | b :: w, n + 1, c, k => xqs w n c (fun w' => k (b :: w'))
-- renaming
def xix : List Nat → Nat → (Nat → Prop) → Prop
  | [], _, _ => False
  | a :: r, q, k => match Nat.beq a q with
    | true => k 0
    | false => xix r q (fun j => k (j + 1))
def xnt : List Nat → Nat → (Nat → Prop) → Prop
  | [], _, _ => False
  | a :: _, 0, k => k a
  | _ :: r, n + 1, k => xnt r n k
def xdnV (pi : List Nat) (v : Value) (k : Value → Prop) : Prop := match v with
  | .int n => k (.int n)
  | .long n => k (.long n)
  | .ref q => xix pi q (fun j => k (.ref j))
  | .null => k .null
  | _ => False
def xdnF (pi : List Nat) : List Value → (List Value → Prop) → Prop
  | [], k => k []
  | v :: r, k => xdnV pi v (fun v' => xdnF pi r (fun r' => k (v' :: r')))
def xdnQ (pi : List Nat) : List (Option Nat) → (List (Option Nat) → Prop) → Prop
  | [], k => k []
  | none :: r, k => xdnQ pi r (fun r' => k (none :: r'))
  | some q :: r, k => xix pi q (fun j => xdnQ pi r (fun r' => k (some j :: r')))
def xdnC (pi : List Nat) (c : xC) (k : xC → Prop) : Prop := match c with
  | .inl a => k (.inl a)
  | .inr (.inl (t, xs)) => xdnQ pi xs (fun xs' => k (.inr (.inl (t, xs'))))
  | .inr (.inr (ci, fs)) => xdnF pi fs (fun fs' => k (.inr (.inr (ci, fs'))))
def xga (pi : List Nat) (w : xW) : List Nat → (xW → Prop) → Prop
  | [], k => k []
  | i :: r, k => xrd w i (fun c => xdnC pi c (fun c' => xga pi w r (fun w' => k (c' :: w'))))
/-- up again; behind pi's end lie the cells that the callee made, n on in the caller -/
def xupI (n : Nat) : List Nat → Nat → (Nat → Prop) → Prop
  | [], j, k => k (n + j)
  | a :: _, 0, k => k a
  | _ :: r, j + 1, k => xupI n r j k
def xupV (n : Nat) (pi : List Nat) (v : Value) (k : Value → Prop) : Prop := match v with
  | .int n => k (.int n)
  | .long n => k (.long n)
  | .ref q => xupI n pi q (fun j => k (.ref j))
  | .null => k .null
  | _ => False
def xupF (n : Nat) (pi : List Nat) : List Value → (List Value → Prop) → Prop
  | [], k => k []
  | v :: r, k => xupV n pi v (fun v' => xupF n pi r (fun r' => k (v' :: r')))
def xupQ (n : Nat) (pi : List Nat) : List (Option Nat) → (List (Option Nat) → Prop) → Prop
  | [], k => k []
  | none :: r, k => xupQ n pi r (fun r' => k (none :: r'))
  | some q :: r, k => xupI n pi q (fun j => xupQ n pi r (fun r' => k (some j :: r')))
def xupC (n : Nat) (pi : List Nat) (c : xC) (k : xC → Prop) : Prop := match c with
  | .inl a => k (.inl a)
  | .inr (.inl (t, xs)) => xupQ n pi xs (fun xs' => k (.inr (.inl (t, xs'))))
  | .inr (.inr (ci, fs)) => xupF n pi fs (fun fs' => k (.inr (.inr (ci, fs'))))
def xapp : xW → xW → (xW → Prop) → Prop
  | [], w2, k => k w2
  | c :: w, w2, k => xapp w w2 (fun w' => k (c :: w'))
def xupL (n : Nat) (pi : List Nat) : xW → (xW → Prop) → Prop
  | [], k => k []
  | c :: r, k => xupC n pi c (fun c' => xupL n pi r (fun r' => k (c' :: r')))
/-- the callee's cells back into the caller's world; 'g': it may have made new ones -/
def xsc (g : Bool) (n : Nat) (pi : List Nat) : List Nat → xW → xW → (xW → Prop) → Prop
  | [], [], w, k => k w
  | [], c :: r, w, k => match g with
    | true => xupL n pi (c :: r) (fun r' => xapp w r' k)
    | false => False
  | i :: is, c :: r, w, k => xupC n pi c (fun c' => xwr w i c' (fun w' => xsc g n pi is r w' k))
  | _ :: _, [], _, _ => False
-- which cells an argument brings along: an object and what was made with it, an array alone
def xsz (ci : Nat) : Nat := match ci with
  | 0 => 3
  | 1 => 3
  | 2 => 2
  | 3 => 2
  | 4 => 18
  | 5 => 70
  | _ => 11
/-- a written number again, so that sums do not pile up -/
def xforce (n : Nat) (k : Nat → Prop) : Prop := match n with
  | 0 => k 0
  | m + 1 => k (m + 1)
/-- the places from q on that are not among acc yet -/
def xrange (L : Nat) (acc : List Nat) : Nat → Nat → (List Nat → Prop) → Prop
  | 0, _, k => k []
  | n + 1, q, k => xforce q (fun q => match Nat.ble L q || acc.any (fun a => Nat.beq a q) with
    | true => xrange L acc n (q + 1) k
    | false => xrange L acc n (q + 1) (fun r => k (q :: r)))
def xnapp : List Nat → List Nat → (List Nat → Prop) → Prop
  | [], w2, k => k w2
  | c :: w, w2, k => xnapp w w2 (fun w' => k (c :: w'))
def xpi (w : xW) : List Value → List Nat → (List Nat → Prop) → Prop
  | [], acc, k => k acc
  | .ref q :: r, acc, k => xrd w q (fun c => xrange w.length acc (match c with
      | .inr (.inr (ci, _)) => xsz ci
      | _ => 1) q (fun l => xnapp acc l (fun acc2 => xpi w r acc2 k)))
  | _ :: r, acc, k => xpi w r acc k
def xall : List Nat → Nat → Nat → Bool
  | [], i, n => Nat.beq i n
  | a :: r, i, n => Nat.beq a i && xall r (i + 1) n
/-- are all refs of a thing below n: asked before the world grows -/
def xokV (n : Nat) (v : Value) : Bool := match v with
  | .ref q => Nat.blt q n
  | _ => true
def xokF (n : Nat) : List Value → Bool
  | [] => true
  | v :: r => xokV n v && xokF n r
def xokQ (n : Nat) : List (Option Nat) → Bool
  | [] => true
  | some q :: r => Nat.blt q n && xokQ n r
  | none :: r => xokQ n r
def xokC (n : Nat) (c : xC) : Bool := match c with
  | .inl _ => true
  | .inr (.inl (_, xs)) => xokQ n xs
  | .inr (.inr (_, fs)) => xokF n fs
def xokW (n : Nat) : xW → Bool
  | [] => true
  | c :: r => xokC n c && xokW n r
def xokL (n : Nat) : xL → Bool
  | [] => true
  | q :: r => xokV n q.2 && xokL n r
def xok (ls : xL) (st : List Value) (w : xW) : Bool := xokL w.length ls && (xokF w.length st && xokW w.length w)
-- what the instructions do
def xs_push (v : Value) : xSem := fun ls st w b go _ => go none ls (v :: st) w b
def xs_il (i : Nat) : xSem := fun ls st w b go _ => xld ls i (fun v => match v with
  | .int n => go none ls (.int n :: st) w b
  | _ => False)
def xs_ll (i : Nat) : xSem := fun ls st w b go _ => xld ls i (fun v => match v with
  | .long n => go none ls (.long n :: st) w b
  | _ => False)
def xs_al (i : Nat) : xSem := fun ls st w b go _ => xld ls i (fun v => match v with
  | .ref n => go none ls (.ref n :: st) w b
  | .float n => go none ls (.float n :: st) w b
  | _ => False)
def xs_is (i : Nat) : xSem := fun ls st w b go _ => match st with
  | .int n :: st' => xsto ls i (.int n) (fun ls' => go none ls' st' w b)
  | _ => False
def xs_as (i : Nat) : xSem := fun ls st w b go _ => match st with
  | .ref n :: st' => xsto ls i (.ref n) (fun ls' => go none ls' st' w b)
  | _ => False
def xs_iinc (i : Nat) (d : Int32) : xSem := fun ls st w b go _ => xld ls i (fun v => match v with
  | .int n => xsto ls i (.int (n + d)) (fun ls' => go none ls' st w b)
  | _ => False)
def xs_b2 (f : Int32 → Int32 → Int32) : xSem := fun ls st w b go _ => match st with
  | .int y :: .int x :: st' => go none ls (.int (f x y) :: st') w b
  | _ => False
def xs_div : xSem := fun ls st w b go _ => match st with
  | .int y :: .int x :: st' => ¬ y = 0 ∧ go none ls (.int (x / y) :: st') w b
  | _ => False
def xs_rem : xSem := fun ls st w b go _ => match st with
  | .int y :: .int x :: st' => ¬ y = 0 ∧ go none ls (.int (x - x / y * y) :: st') w b
  | _ => False
def xs_u1 (f : Int32 → Int32) : xSem := fun ls st w b go _ => match st with
  | .int x :: st' => go none ls (.int (f x) :: st') w b
  | _ => False
def xs_i2l : xSem := fun ls st w b go _ => match st with
  | .int x :: st' => go none ls (.long x.toInt64 :: st') w b
  | _ => False
def xs_l2i : xSem := fun ls st w b go _ => match st with
  | .long x :: st' => go none ls (.int x.toInt32 :: st') w b
  | _ => False
def xs_l2 (f : Int64 → Int64 → Int64) : xSem := fun ls st w b go _ => match st with
  | .long y :: .long x :: st' => go none ls (.long (f x y) :: st') w b
  | _ => False
def xs_lsh (f : Int64 → Int32 → Int64) : xSem := fun ls st w b go _ => match st with
  | .int y :: .long x :: st' => go none ls (.long (f x y) :: st') w b
  | _ => False
def xs_dup : xSem := fun ls st w b go _ => match st with
  | .int x :: st' => go none ls (.int x :: .int x :: st') w b
  | .ref x :: st' => go none ls (.ref x :: .ref x :: st') w b
  | _ => False
def xs_dup2 : xSem := fun ls st w b go _ => match st with
  | .int x :: .ref y :: st' => go none ls (.int x :: .ref y :: .int x :: .ref y :: st') w b
  | _ => False
def xs_pop : xSem := fun ls st w b go _ => match st with
  | .int _ :: st' => go none ls st' w b
  | _ => False
def xs_if (c : Int32 → Prop) (t : Nat) : xSem := fun ls st w b go _ => match st with
  | .int x :: st' => (c x → go (some t) ls st' w b) ∧ (¬ c x → go none ls st' w b)
  | _ => False
def xs_ic (c : Int32 → Int32 → Prop) (t : Nat) : xSem := fun ls st w b go _ => match st with
  | .int y :: .int x :: st' => (c x y → go (some t) ls st' w b) ∧ (¬ c x y → go none ls st' w b)
  | _ => False
def xs_ifn (c : Int32 → Prop) (t : Nat) : xSem := fun ls st w b go _ => match st with
  | .int x :: st' => (¬ c x → go (some t) ls st' w b) ∧ (c x → go none ls st' w b)
  | _ => False
def xs_icn (c : Int32 → Int32 → Prop) (t : Nat) : xSem := fun ls st w b go _ => match st with
  | .int y :: .int x :: st' => (¬ c x y → go (some t) ls st' w b) ∧ (c x y → go none ls st' w b)
  | _ => False
theorem br_n {c A B : Prop} (a : ¬ c → A) (b : c → B) : (¬ c → A) ∧ (c → B) := ⟨a, b⟩
def xs_goto (t : Nat) : xSem := fun ls st w b go _ => go (some t) ls st w b
def xsw (x : Int32) (d : Nat) (go : Nat → Prop) : List (Int32 × Nat) → Prop
  | [] => go d
  | q :: r => (x = q.1 → go q.2) ∧ (¬ x = q.1 → xsw x d go r)
def xs_sw (ps : List (Int32 × Nat)) (d : Nat) : xSem := fun ls st w b go _ => match st with
  | .int x :: st' => xsw x d (fun t => go (some t) ls st' w b) ps
  | _ => False
def xs_gf (ci k : Nat) : xSem := fun ls st w b go _ => match st with
  | .ref q :: st' => xrd w q (fun c => match c with
    | .inr (.inr (cj, fs)) => match Nat.beq cj ci with
      | true => xfg fs k (fun v => go none ls (v :: st') w b)
      | false => False
    | _ => False)
  | _ => False
def xs_pf (z : Bool) (ci k : Nat) : xSem := fun ls st w b go _ => match st with
  | .int n :: .ref q :: st' => xrd w q (fun c => match c with
    | .inr (.inr (cj, fs)) => match Nat.beq cj ci with
      | true => xfs fs k (.int n) (fun fs' => xwr w q (.inr (.inr (ci, fs'))) (fun w' => match z with
        | true => (n = 0 ∨ n = 1) ∧ go none ls st' w' b
        | false => go none ls st' w' b))
      | false => False
    | _ => False)
  | _ => False
def xs_pfr (ci k : Nat) : xSem := fun ls st w b go _ => match st with
  | .ref n :: .ref q :: st' => xrd w q (fun c => match c with
    | .inr (.inr (cj, fs)) => match Nat.beq cj ci with
      | true => xfs fs k (.ref n) (fun fs' => xwr w q (.inr (.inr (ci, fs'))) (fun w' => go none ls st' w' b))
      | false => False
    | _ => False)
  | _ => False
def xs_tld (j : UInt32) (N : Nat) (f : Nat → Int32) : xSem := fun ls st w b go _ => match st with
  | .int i :: .float t :: st' => t = j ∧ vp_in i N ∧ go none ls (.int (f i.toNatClampNeg) :: st') w b
  | _ => False
def xs_tlen (j : UInt32) (N : Nat) : xSem := fun ls st w b go _ => match st with
  | .float t :: st' => t = j ∧ go none ls (.int (Int32.ofNat N) :: st') w b
  | _ => False
def xs_iald : xSem := fun ls st w b go _ => match st with
  | .int i :: .ref q :: st' => xrd w q (fun c => match c with
    | .inl (n, f) => vp_in i n ∧ go none ls (.int (f i.toNatClampNeg) :: st') w b
    | _ => False)
  | _ => False
def xs_iast : xSem := fun ls st w b go _ => match st with
  | .int v :: .int i :: .ref q :: st' => xrd w q (fun c => match c with
    | .inl (n, f) => vp_in i n ∧ xwr w q (.inl (n, upd f i.toNatClampNeg v)) (fun w' => go none ls st' w' b)
    | _ => False)
  | _ => False
def xs_alen : xSem := fun ls st w b go _ => match st with
  | .ref q :: st' => xrd w q (fun c => match c with
    | .inl (n, _) => go none ls (.int (Int32.ofNat n) :: st') w b
    | _ => False)
  | _ => False
def xaa (i : Int32) (k : Nat → Prop) : Nat → List (Option Nat) → Prop
  | _, [] => True
  | j, some q :: r => (i = Int32.ofNat j → k q) ∧ xaa i k (j + 1) r
  | _, none :: _ => False
def xs_aald (t : Nat) : xSem := fun ls st w b go _ => match st with
  | .int i :: .ref q :: st' => xrd w q (fun c => match c with
    | .inr (.inl (t', xs)) => match Nat.beq t' t with
      | true => vp_in i xs.length ∧ xaa i (fun a => go none ls (.ref a :: st') w b) 0 xs
      | false => False
    | _ => False)
  | _ => False
/-- only at a place that is a written number; the value an object of kind ci -/
def xs_aast (t ci j : Nat) : xSem := fun ls st w b go _ => match st with
  | .ref v :: .int i :: .ref q :: st' => i = Int32.ofNat j ∧ xrd w v (fun c => match c with
    | .inr (.inr (cj, _)) => match Nat.beq cj ci with
      | true => xrd w q (fun c => match c with
        | .inr (.inl (t', xs)) => match Nat.beq t' t with
          | true => xqs xs j (some v) (fun xs' => xwr w q (.inr (.inl (t, xs'))) (fun w' => go none ls st' w' b))
          | false => False
        | _ => False)
      | false => False
    | _ => False)
  | _ => False
def xbud (mc ms k n : Nat) (b : xB) (go : xB → Prop) : Prop := match Nat.beq k 0 && Nat.beq n 0 with
  | true => go b
  | false => match Nat.ble (b.1 + k) mc && Nat.ble (b.2 + n) ms with
    | true => xforce (b.1 + k) (fun x => xforce (b.2 + n) (fun y => go (x, y)))
    | false => False
def xs_new (mc ms ci N : Nat) (fs : List Value) : xSem := fun ls st w b go _ => match xok ls st w with
  | true => xbud mc ms 1 N b (fun b' => xpush w (.inr (.inr (ci, fs))) (fun q w' => go none ls (.ref q :: st) w' b'))
  | false => False
def xs_newa (mc ms N : Nat) : xSem := fun ls st w b go _ => match st with
  | .int i :: st' => i = Int32.ofNat N ∧ match xok ls st' w with
    | true => xbud mc ms 1 N b (fun b' => xpush w (.inl (N, fun _ => 0)) (fun q w' => go none ls (.ref q :: st') w' b'))
    | false => False
  | _ => False
def xs_newq (mc ms t N : Nat) : xSem := fun ls st w b go _ => match st with
  | .int i :: st' => i = Int32.ofNat N ∧ match xok ls st' w with
    | true => xbud mc ms 1 N b (fun b' => xpush w (.inr (.inl (t, List.replicate N none))) (fun q w' => go none ls (.ref q :: st') w' b'))
    | false => False
  | _ => False
def xs_obj : xSem := fun ls st w b go _ => match st with
  | .ref _ :: st' => match Nat.ble (st'.map fun v => v.category).sum 8 with
    | true => go none ls st' w b
    | false => False
  | _ => False
def xs_acopy : xSem := fun ls st w b go _ => match st with
  | .int n :: .int dp :: .ref q1 :: .int sp :: .ref q0 :: st' => match Nat.ble (st'.map fun v => v.category).sum 8 with
    | true => xrd w q0 (fun c0 => match c0 with
      | .inl (n0, f) => xrd w q1 (fun c1 => match c1 with
        | .inl (n1, g) => (¬ sp < 0 ∧ ¬ dp < 0 ∧ ¬ n < 0 ∧ sp.toNatClampNeg + n.toNatClampNeg ≤ n0 ∧ dp.toNatClampNeg + n.toNatClampNeg ≤ n1) ∧ xwr w q1 (.inl (n1, va_cpy f g sp.toNatClampNeg dp.toNatClampNeg n.toNatClampNeg)) (fun w' => go none ls st' w' b)
        | _ => False)
      | _ => False)
    | false => False
  | _ => False
def xpop : Nat → List Value → List Value → (List Value → List Value → Prop) → Prop
  | 0, st, acc, k => k acc st
  | _ + 1, [], _, _ => False
  | n + 1, v :: st, acc, k => xpop n st (v :: acc) k
def xret (n : Nat) (pi : List Nat) (r : Option Value) (st : List Value) (k : List Value → Prop) : Prop := match r with
  | none => k st
  | some v => xupV n pi v (fun v' => k (v' :: st))
def xrck (rc : Option Nat) (av : List Value) (w : xW) (k : Prop) : Prop := match rc with
  | none => k
  | some ci => match av with
    | .ref q :: _ => xrd w q (fun c => match c with
      | .inr (.inr (cj, _)) => match Nat.beq cj ci with
        | true => k
        | false => False
      | _ => False)
    | _ => False
/-- is the callee's world surely the caller's: its receiver is the first cell, and brings all along -/
def xself (av : List Value) (w : xW) : Bool := match av with
  | .ref q :: _ => Nat.beq q 0 && (match w with
    | .inr (.inr (ci, _)) :: _ => Nat.beq (xsz ci) w.length
    | _ => false)
  | _ => false
/-- a call: 'rc' the receiver's kind (none: a static method), n values, what it answers by C; g: it may make cells (kc of ks slots) -/
def xs_call (g : Bool) (mc ms kc ks : Nat) (rc : Option Nat) (n : Nat) (C : xPT) : xSem := fun ls st w b go _ => xpop n st [] (fun av st' => match Nat.ble (st'.map fun v => v.category).sum 8 && (!g || xok ls (av ++ st') w) with
  | true => xbud mc ms kc ks b (fun b' => xrck rc av w (match !g && xself av w with
    | true => ∀ X : xPT, X = C → X av w (fun r w' => match Nat.beq w'.length w.length with
      | true => (match r with
        | none => go none ls st' w' b'
        | some v => go none ls (v :: st') w' b')
      | false => False)
    | false => xpi w av [] (fun pi => xdnF pi av (fun av' => xga pi w pi (fun lw => ∀ X : xPT, X = C → X av' lw (fun r lw' => xsc g w.length pi pi lw' w (fun w' => xret w.length pi r st' (fun st2 => go none ls st2 w' b'))))))))
  | false => False)
def xs_iret (z : Bool) : xSem := fun _ st w _ _ K => match st with
  | [.int v] => (match z with
    | true => (v = 0 ∨ v = 1) ∧ K (some (.int v)) w
    | false => K (some (.int v)) w)
  | _ => False
def xs_aret : xSem := fun _ st w _ _ K => match st with
  | [.ref v] => K (some (.ref v)) w
  | _ => False
def xs_ret : xSem := fun _ st w _ _ K => match st with
  | [] => K none w
  | _ => False
-- the run
def xseek : List xEl → Nat → List xEl
  | [], _ => []
  | e :: r, t => match Nat.beq e.1 t with
    | true => e :: r
    | false => xseek r t
def xcut (pc : Nat) : List (Nat × List Nat) → Option (List Nat)
  | [] => none
  | q :: r => match Nat.beq q.1 pc with
    | true => some q.2
    | false => xcut pc r
def xrun (prog : List xEl) (cuts : List (Nat × List Nat)) (P : Nat → xL → List Value → xW → xB → Prop) (K : xKo) : Nat → List xEl → xL → List Value → xW → xB → Prop
  | 0, _, _, _, _, _ => False
  | _ + 1, [], _, _, _, _ => False
  | n + 1, e :: r, ls, st, w, b => e.2.2.2 ls st w b (fun t ls' st' w' b' => match (match t with
      | none => r
      | some q => xseek prog q) with
    | [] => False
    | e' :: r' => match xcut e'.1 cuts with
      | some ks => xkeep ks ls' (fun l => P e'.1 l st' w' b')
      | none => xrun prog cuts P K n (e' :: r') ls' st' w' b') K
/-- from a place of the program on: the least condition that is closed under runs -/
def xWP (prog : List xEl) (K : xKo) (pc : Nat) (ls : xL) (st : List Value) (w : xW) (b : xB) : Prop :=
  ∀ P : Nat → xL → List Value → xW → xB → Prop, (∀ n cuts pc ls st w b, xrun prog cuts P K n (xseek prog pc) ls st w b → P pc ls st w b) → P pc ls st w b
/-- a method: its contract as a condition on what comes after it -/
def xM (n : Nat) (prog : List xEl) : xPT := fun av w K => match Nat.ble (lg_sl av).length n with
  | true => xWP prog K 0 (lv_args 0 av) [] w (0, 0)
  | false => False
end
section
/-! ===== what pictures mean: addresses for the cells' places ===== -/
/-- classes' numbers and slots; the array classes; where the tables lie; the script's length and ints -/
abbrev xE : Type := va_G × (ClassId × ClassId × ClassId) × (UInt32 → Nat) × Nat × (Nat → Int32)
def xcv (E : xE) (as : List Nat) (v : Value) : Value := match v with
  | .ref q => .ref (as.getD q 0)
  | .float j => .ref (E.2.2.1 j)
  | v => v
def xct (E : xE) (t : Nat) : ClassId := match t with
  | 0 => E.2.1.2.1
  | _ => E.2.1.2.2
def xqv (as : List Nat) (xs : List (Option Nat)) : Nat → Option Nat := fun j => (xs.getD j none).map (fun q => as.getD q 0)
def xce (E : xE) (as : List Nat) (c : xC) : va_E := match c with
  | .inl a => .inl (E.2.1.1, a.1, .inl a.2)
  | .inr (.inl (t, xs)) => .inl (xct E t, xs.length, .inr (.inr (.inr (.inr (xqv as xs)))))
  | .inr (.inr (ci, fs)) => .inr (ci, fs.map (xcv E as))
def xG (E : xE) (as : List Nat) (w : xW) : va_W := List.zipWith (fun a c => (a, xce E as c)) as w
def xlv (E : xE) (as : List Nat) (ls : xL) : List (Nat × Value) := ls.map (fun q => (q.1, xcv E as q.2))
def xtys (E : xE) : List (ClassId × FieldType) := [(E.2.1.1, .int), (E.2.1.2.1, .object "HomeCalls$Law"), (E.2.1.2.2, .object "HomeCalls$Sheet")]
-- the continuation forms, read back
theorem xbeq {a b : Nat} (h : Nat.beq a b = true) : a = b := Nat.eq_of_beq_eq_true h
theorem xld_spec {i : Nat} {k : Value → Prop} : ∀ {ls : xL}, xld ls i k → ∃ v, (i, v) ∈ ls ∧ k v
  | [], h => h.elim
  | q :: r, h => by
    unfold xld at h
    split at h
    · next e => exact ⟨q.2, by rw [← xbeq e]; exact List.mem_cons_self, h⟩
    · obtain ⟨v, h1, h2⟩ := xld_spec h
      exact ⟨v, List.mem_cons_of_mem _ h1, h2⟩
theorem xrm_spec {i : Nat} : ∀ {ls : xL} {k : xL → Prop}, xrm ls i k → ∃ l, k l ∧ ∀ q ∈ l, q ∈ ls ∧ ¬ q.1 = i ∧ ¬ (q.1 + 1 = i ∧ q.2.category = 2)
  | [], k, h => ⟨[], h, fun q hq => by cases hq⟩
  | q :: r, k, h => by
    unfold xrm at h
    split at h
    · obtain ⟨l, h1, h2⟩ := xrm_spec h
      exact ⟨l, h1, fun x hx => ⟨List.mem_cons_of_mem _ (h2 x hx).1, (h2 x hx).2⟩⟩
    · next e =>
      obtain ⟨l, h1, h2⟩ := xrm_spec h
      refine ⟨_, h1, fun x hx => ?_⟩
      rcases List.mem_cons.mp hx with rfl | hx
      · rw [Bool.or_eq_false_iff] at e
        refine ⟨List.mem_cons_self, fun z => ?_, fun z => ?_⟩
        · rw [z] at e; simp at e
        · rw [z.1, z.2] at e; simp at e
      · exact ⟨List.mem_cons_of_mem _ (h2 x hx).1, (h2 x hx).2⟩
theorem xins_spec {i : Nat} {v : Value} : ∀ {ls : xL} {k : xL → Prop}, xins ls i v k → ∃ l, k l ∧ ∀ q ∈ l, q = (i, v) ∨ q ∈ ls
  | [], k, h => ⟨_, h, fun q hq => by simp at hq; exact Or.inl hq⟩
  | q :: r, k, h => by
    unfold xins at h
    split at h
    · obtain ⟨l, h1, h2⟩ := xins_spec h
      refine ⟨_, h1, fun x hx => ?_⟩
      rcases List.mem_cons.mp hx with rfl | hx
      · exact Or.inr List.mem_cons_self
      · rcases h2 x hx with h | h
        · exact Or.inl h
        · exact Or.inr (List.mem_cons_of_mem _ h)
    · refine ⟨_, h, fun x hx => ?_⟩
      rcases List.mem_cons.mp hx with rfl | hx
      · exact Or.inl rfl
      · exact Or.inr hx
theorem xsto_spec {i : Nat} {v : Value} {ls : xL} {k : xL → Prop} (h : xsto ls i v k) : ∃ l, k l ∧ ∀ q ∈ l, q = (i, v) ∨ (q ∈ ls ∧ ¬ q.1 = i ∧ ¬ (q.1 + 1 = i ∧ q.2.category = 2)) := by
  obtain ⟨l1, h1, h2⟩ := xrm_spec h
  obtain ⟨l2, h3, h4⟩ := xins_spec h1
  refine ⟨l2, h3, fun q hq => ?_⟩
  rcases h4 q hq with h | h
  · exact Or.inl h
  · exact Or.inr (h2 q h)
theorem xkeep_spec {ls : xL} : ∀ {is : List Nat} {k : xL → Prop}, xkeep is ls k → ∃ l, k l ∧ ∀ q ∈ l, q ∈ ls
  | [], k, h => ⟨[], h, fun q hq => by cases hq⟩
  | i :: r, k, h => by
    obtain ⟨v, h1, h2⟩ := xld_spec h
    obtain ⟨l, h3, h4⟩ := xkeep_spec h2
    refine ⟨_, h3, fun x hx => ?_⟩
    rcases List.mem_cons.mp hx with rfl | hx
    · exact h1
    · exact h4 x hx
theorem xrd_spec {k : xC → Prop} : ∀ {w : xW} {q : Nat}, xrd w q k → ∃ c, w[q]? = some c ∧ k c
  | [], q, h => by unfold xrd at h; exact h.elim
  | c :: w, 0, h => ⟨c, rfl, h⟩
  | c :: w, n + 1, h => by
    obtain ⟨c', h1, h2⟩ := xrd_spec (w := w) (q := n) h
    exact ⟨c', by rw [List.getElem?_cons_succ]; exact h1, h2⟩
theorem xwr_spec {c : xC} : ∀ {w : xW} {q : Nat} {k : xW → Prop}, xwr w q c k → q < w.length ∧ k (w.set q c)
  | [], q, k, h => by unfold xwr at h; exact h.elim
  | b :: w, 0, k, h => ⟨Nat.zero_lt_succ _, h⟩
  | b :: w, n + 1, k, h => by
    obtain ⟨h1, h2⟩ := xwr_spec (w := w) (q := n) h
    exact ⟨Nat.succ_lt_succ h1, h2⟩
theorem xfg_spec {k : Value → Prop} : ∀ {w : List Value} {q : Nat}, xfg w q k → ∃ c, w[q]? = some c ∧ k c
  | [], q, h => by unfold xfg at h; exact h.elim
  | c :: w, 0, h => ⟨c, rfl, h⟩
  | c :: w, n + 1, h => by
    obtain ⟨c', h1, h2⟩ := xfg_spec (w := w) (q := n) h
    exact ⟨c', by rw [List.getElem?_cons_succ]; exact h1, h2⟩
theorem xfs_spec {c : Value} : ∀ {w : List Value} {q : Nat} {k : List Value → Prop}, xfs w q c k → q < w.length ∧ k (w.set q c)
  | [], q, k, h => by unfold xfs at h; exact h.elim
  | b :: w, 0, k, h => ⟨Nat.zero_lt_succ _, h⟩
  | b :: w, n + 1, k, h => by
    obtain ⟨h1, h2⟩ := xfs_spec (w := w) (q := n) h
    exact ⟨Nat.succ_lt_succ h1, h2⟩
theorem xqs_spec {c : Option Nat} : ∀ {w : List (Option Nat)} {q : Nat} {k : List (Option Nat) → Prop}, xqs w q c k → q < w.length ∧ k (w.set q c)
  | [], q, k, h => by unfold xqs at h; exact h.elim
  | b :: w, 0, k, h => ⟨Nat.zero_lt_succ _, h⟩
  | b :: w, n + 1, k, h => by
    obtain ⟨h1, h2⟩ := xqs_spec (w := w) (q := n) h
    exact ⟨Nat.succ_lt_succ h1, h2⟩
theorem xpush_spec {c : xC} : ∀ {w : xW} {k : Nat → xW → Prop}, xpush w c k → k w.length (w ++ [c])
  | [], k, h => h
  | b :: w, k, h => xpush_spec (w := w) h
theorem xforce_spec {n : Nat} {k : Nat → Prop} (h : xforce n k) : k n := by
  cases n <;> exact h
theorem xbud_spec {mc ms k n : Nat} {b : xB} {go : xB → Prop} (h : xbud mc ms k n b go) : (k = 0 ∧ n = 0 ∧ go b) ∨ (b.1 + k ≤ mc ∧ b.2 + n ≤ ms ∧ go (b.1 + k, b.2 + n)) := by
  unfold xbud at h
  split at h
  · next e =>
    rw [Bool.and_eq_true] at e
    exact Or.inl ⟨xbeq e.1, xbeq e.2, h⟩
  · split at h
    · next e =>
      rw [Bool.and_eq_true] at e
      exact Or.inr ⟨Nat.le_of_ble_eq_true e.1, Nat.le_of_ble_eq_true e.2, xforce_spec (xforce_spec h)⟩
    · exact h.elim
theorem xbud_any {mc ms k n : Nat} {b : xB} {go : xB → Prop} (h : xbud mc ms k n b go) : go (b.1 + k, b.2 + n) ∧ ((k = 0 ∧ n = 0) ∨ (b.1 + k ≤ mc ∧ b.2 + n ≤ ms)) := by
  rcases xbud_spec h with ⟨rfl, rfl, h⟩ | ⟨h1, h2, h⟩
  · exact ⟨h, Or.inl ⟨rfl, rfl⟩⟩
  · exact ⟨h, Or.inr ⟨h1, h2⟩⟩
theorem xbud_one {mc ms k n : Nat} {b : xB} {go : xB → Prop} (h : xbud mc ms (k + 1) n b go) : b.1 + (k + 1) ≤ mc ∧ b.2 + n ≤ ms ∧ go (b.1 + (k + 1), b.2 + n) := by
  rcases xbud_spec h with ⟨h, -, -⟩ | h
  · omega
  · exact h
theorem xpop_spec : ∀ {n : Nat} {st acc : List Value} {k : List Value → List Value → Prop}, xpop n st acc k → ∃ as rest, st = as ++ rest ∧ as.length = n ∧ k (as.reverse ++ acc) rest
  | 0, st, acc, k, h => ⟨[], st, rfl, rfl, h⟩
  | n + 1, [], acc, k, h => by unfold xpop at h; exact h.elim
  | n + 1, v :: st, acc, k, h => by
    obtain ⟨as, rest, h1, h2, h3⟩ := xpop_spec (n := n) (st := st) (acc := v :: acc) h
    exact ⟨v :: as, rest, by rw [h1]; rfl, by simp [h2], by simpa using h3⟩
theorem xaa_spec {i : Int32} {k : Nat → Prop} : ∀ {xs : List (Option Nat)} {j : Nat}, xaa i k j xs → ∀ n, n < xs.length → i = Int32.ofNat (j + n) → ∃ q, xs[n]? = some (some q) ∧ k q
  | [], j, _, n, hn, _ => absurd hn (Nat.not_lt_zero _)
  | none :: r, j, h, n, hn, e => by unfold xaa at h; exact h.elim
  | some q :: r, j, h, 0, hn, e => ⟨q, rfl, h.1 e⟩
  | some q :: r, j, h, n + 1, hn, e => by
    obtain ⟨q', h1, h2⟩ := xaa_spec (xs := r) (j := j + 1) h.2 n (Nat.lt_of_succ_lt_succ hn) (by rw [e]; congr 1; omega)
    exact ⟨q', by rw [List.getElem?_cons_succ]; exact h1, h2⟩
-- the world's cells
theorem xG_get {E : xE} {as : List Nat} {w : xW} {q : Nat} {c : xC} (hl : as.length = w.length) (h : w[q]? = some c) : (xG E as w)[q]? = some (as.getD q 0, xce E as c) := by
  have hq : q < as.length := by rw [hl]; exact (List.getElem?_eq_some_iff.mp h).1
  unfold xG
  rw [List.getElem?_zipWith, h, List.getD_eq_getElem?_getD, List.getElem?_eq_getElem hq]
  rfl
theorem xG_at {E : xE} {as : List Nat} {w : xW} {q : Nat} {x : Nat × va_E} (h : (xG E as w)[q]? = some x) : ∃ c, w[q]? = some c ∧ q < as.length ∧ x = (as.getD q 0, xce E as c) := by
  unfold xG at h
  rw [List.getElem?_zipWith] at h
  cases ha : as[q]? with
  | none => rw [ha] at h; simp at h
  | some a =>
    cases hw : w[q]? with
    | none => rw [ha, hw] at h; simp at h
    | some c =>
      rw [ha, hw] at h
      simp only [Option.some.injEq] at h
      exact ⟨c, rfl, (List.getElem?_eq_some_iff.mp ha).1, by rw [← h, List.getD_eq_getElem?_getD, ha]; rfl⟩
theorem x_zs {β : Type} (f : Nat → xC → β) : ∀ (as : List Nat) (w : xW) (q : Nat) (c : xC), as.length = w.length → q < w.length → (List.zipWith f as w).set q (f (as.getD q 0) c) = List.zipWith f as (w.set q c)
  | [], [], q, c, _, hq => absurd hq (Nat.not_lt_zero _)
  | [], _ :: _, _, _, h, _ => by simp at h
  | _ :: _, [], _, _, h, _ => by simp at h
  | a :: as, b :: w, 0, c, h, _ => rfl
  | a :: as, b :: w, q + 1, c, h, hq => by
    have := x_zs f as w q c (by simpa using h) (by simpa using hq)
    simp only [List.zipWith_cons_cons, List.set_cons_succ, List.getD_cons_succ]
    rw [this]
theorem xG_set {E : xE} {as : List Nat} {w : xW} {q : Nat} {c : xC} (hl : as.length = w.length) (hq : q < w.length) : (xG E as w).set q (as.getD q 0, xce E as c) = xG E as (w.set q c) :=
  x_zs (fun a c => (a, xce E as c)) as w q c hl hq
theorem xlv_mem {E : xE} {as : List Nat} {ls : xL} {i : Nat} {v : Value} (h : (i, v) ∈ ls) : (i, xcv E as v) ∈ xlv E as ls := List.mem_map.mpr ⟨(i, v), h, rfl⟩
theorem xcv_cat (E : xE) (as : List Nat) (v : Value) : (xcv E as v).category = v.category := by cases v <;> rfl
theorem lv_has_sub {ls : Array Slot} {nL : Nat} {l l' : List (Nat × Value)} (h : lv_has ls nL l) (hs : ∀ q ∈ l', q ∈ l) : lv_has ls nL l' := ⟨h.1, h.2.1, fun q hq => h.2.2 q (hs q hq)⟩
theorem xlv_sto {E : xE} {as : List Nat} {ls l : xL} {i : Nat} {v : Value} (h : ∀ q ∈ l, q = (i, v) ∨ (q ∈ ls ∧ ¬ q.1 = i ∧ ¬ (q.1 + 1 = i ∧ q.2.category = 2))) : ∀ q ∈ xlv E as l, q ∈ (i, xcv E as v) :: (xlv E as ls).filter (fun q => !(q.1 == i) && !(q.1 + 1 == i && q.2.category == 2)) := by
  intro q hq
  obtain ⟨x, hx, rfl⟩ := List.mem_map.mp hq
  rcases h x hx with rfl | ⟨h1, h2, h3⟩
  · exact List.mem_cons_self
  · refine List.mem_cons_of_mem _ (List.mem_filter.mpr ⟨List.mem_map.mpr ⟨x, h1, rfl⟩, ?_⟩)
    show (!(x.1 == i) && !(x.1 + 1 == i && (xcv E as x.2).category == 2)) = true
    rw [xcv_cat]
    simp only [Bool.and_eq_true, Bool.not_eq_true', beq_eq_false_iff_ne, ne_eq, h2, not_false_eq_true, true_and, Bool.and_eq_false_iff]
    by_cases z : x.1 + 1 = i
    · exact Or.inr fun y => h3 ⟨z, y⟩
    · exact Or.inl z
-- growing
theorem x_gd {as nw : List Nat} {q : Nat} (h : q < as.length) : (as ++ nw).getD q 0 = as.getD q 0 := by
  rw [List.getD_eq_getElem?_getD, List.getD_eq_getElem?_getD, List.getElem?_append_left h]
theorem xcv_app {E : xE} {as nw : List Nat} {n : Nat} {v : Value} (hn : n ≤ as.length) (h : xokV n v = true) : xcv E (as ++ nw) v = xcv E as v := by
  cases v with
  | ref q =>
    have h1 : q < n := Nat.le_of_ble_eq_true h
    show Value.ref _ = Value.ref _
    rw [x_gd (Nat.lt_of_lt_of_le h1 hn)]
  | _ => rfl
theorem xcvF_app {E : xE} {as nw : List Nat} {n : Nat} (hn : n ≤ as.length) : ∀ {fs : List Value}, xokF n fs = true → fs.map (xcv E (as ++ nw)) = fs.map (xcv E as)
  | [], _ => rfl
  | v :: r, h => by
    unfold xokF at h
    rw [Bool.and_eq_true] at h
    rw [List.map_cons, List.map_cons, xcv_app hn h.1, xcvF_app hn h.2]
theorem xqv_app {as nw : List Nat} {n : Nat} (hn : n ≤ as.length) : ∀ {xs : List (Option Nat)}, xokQ n xs = true → xqv (as ++ nw) xs = xqv as xs := by
  intro xs h
  funext j
  show ((xs.getD j none).map _) = ((xs.getD j none).map _)
  have key : ∀ (xs : List (Option Nat)) (j : Nat), xokQ n xs = true → ∀ q, xs.getD j none = some q → q < n := by
    intro xs
    induction xs with
    | nil => intro j _ q hq; simp at hq
    | cons a r ih =>
      intro j h q hq
      cases a with
      | none =>
        cases j with
        | zero => simp at hq
        | succ j => exact ih j h q (by simpa using hq)
      | some b =>
        unfold xokQ at h
        rw [Bool.and_eq_true] at h
        cases j with
        | zero =>
          simp at hq
          subst hq
          exact Nat.le_of_ble_eq_true h.1
        | succ j => exact ih j h.2 q (by simpa using hq)
  cases hx : xs.getD j none with
  | none => rfl
  | some q =>
    have := key xs j h q hx
    simp only [Option.map_some]
    rw [x_gd (Nat.lt_of_lt_of_le this hn)]
theorem xce_app {E : xE} {as nw : List Nat} {n : Nat} (hn : n ≤ as.length) {c : xC} (h : xokC n c = true) : xce E (as ++ nw) c = xce E as c := by
  match c, h with
  | .inl a, _ => rfl
  | .inr (.inl (t, xs)), h => exact congrArg (fun f : Nat → Option Nat => (Sum.inl (xct E t, xs.length, .inr (.inr (.inr (.inr f)))) : va_E)) (xqv_app (nw := nw) hn h)
  | .inr (.inr (ci, fs)), h => exact congrArg (fun f : List Value => (Sum.inr (ci, f) : va_E)) (xcvF_app (nw := nw) hn h)
theorem xlv_app {E : xE} {as nw : List Nat} {n : Nat} (hn : n ≤ as.length) : ∀ {ls : xL}, xokL n ls = true → xlv E (as ++ nw) ls = xlv E as ls
  | [], _ => rfl
  | q :: r, h => by
    unfold xokL at h
    rw [Bool.and_eq_true] at h
    have := xlv_app (E := E) (as := as) (nw := nw) hn h.2
    unfold xlv at this ⊢
    rw [List.map_cons, List.map_cons, xcv_app hn h.1, this]
theorem xokW_get {n : Nat} : ∀ {w : xW} {k : Nat} {c : xC}, xokW n w = true → w[k]? = some c → xokC n c = true
  | [], k, c, _, h => by simp at h
  | b :: w, 0, c, h, e => by
    unfold xokW at h
    rw [Bool.and_eq_true] at h
    simp at e
    subst e
    exact h.1
  | b :: w, k + 1, c, h, e => by
    unfold xokW at h
    rw [Bool.and_eq_true] at h
    exact xokW_get (w := w) (k := k) h.2 (by simpa using e)
theorem xG_push {E : xE} {as : List Nat} {w : xW} {a : Nat} {c : xC} (hl : as.length = w.length) (h : xokW w.length w = true) : xG E (as ++ [a]) (w ++ [c]) = xG E as w ++ [(a, xce E (as ++ [a]) c)] := by
  have h1 : List.zipWith (fun a' c' => (a', xce E (as ++ [a]) c')) as w = List.zipWith (fun a' c' => (a', xce E as c')) as w := by
    apply List.ext_getElem?
    intro k
    rw [List.getElem?_zipWith, List.getElem?_zipWith]
    cases hw : w[k]? with
    | none => cases as[k]? <;> rfl
    | some b =>
      cases ha : as[k]? with
      | none => rfl
      | some x =>
        simp only []
        rw [xce_app (by omega) (xokW_get h hw)]
  unfold xG
  rw [List.zipWith_append hl, h1]
  rfl
end
section
/-! ===== one instruction of a run is one of the machine ===== -/
def xIS : Nat → Int32 := fun j => ([1, 3, 5, 9, 19, 37, 73] : List Int32).getD j 0
def xNM : Nat → Int32 := fun j => ([100, 98, 109, 110, 120, 98] : List Int32).getD j 0
def xBD : Nat → Int32 := fun j => ([10, 11, 12, 13, 20, 11, 12, 13, 10, 30, 12, 13, 10, 11, 40, 13, 20, 11, 12, 50, 10, 60, 12, 13, 10, 11, 70, 71] : List Int32).getD j 0
def xtb (E : xE) : List (UInt32 × FieldType × Nat × (Nat → Int32)) := [(0, .int, 7, xIS), (1, .char, 6, xNM), (2, .int, 28, xBD), (3, .int, E.2.2.2.1, E.2.2.2.2)]
def xNest : List Cond := [Cond.methodLinkNest "HomeCalls" 9 ⟨"HomeCalls$Street", "<init>", "()V"⟩ "HomeCalls", Cond.methodLinkNest "HomeCalls$Street" 42 ⟨"HomeCalls$Law", "<init>", "()V"⟩ "HomeCalls", Cond.methodLinkNest "HomeCalls" 24 ⟨"HomeCalls$Reader", "<init>", "()V"⟩ "HomeCalls", Cond.methodLinkNest "HomeCalls" 31 ⟨"HomeCalls$Speaker", "<init>", "()V"⟩ "HomeCalls", Cond.methodLinkNest "HomeCalls" 38 ⟨"HomeCalls$Sheet", "<init>", "()V"⟩ "HomeCalls", Cond.methodLinkNest "HomeCalls$Street" 103 ⟨"HomeCalls", "isIn", "(II)Z"⟩ "HomeCalls"]
def xStat (E : xE) (A : Nat → Prop) (U : State) (H : Heap) : Prop := (∀ q ∈ xtb E, va_T q.2.1 (E.2.2.1 q.1) q.2.2.1 (fun j => .int (q.2.2.2 j)) A U H) ∧
  va_Z "HomeCalls" "IS" "[I" (.ref (E.2.2.1 0)) A U H ∧ va_Z "HomeCalls$Reader" "NAMES_OF_USES" "[C" (.ref (E.2.2.1 1)) A U H ∧ va_Z "HomeCalls$Speaker" "BODIES" "[I" (.ref (E.2.2.1 2)) A U H ∧
  (∀ w ∈ xNest, va_Nw w U) ∧ va_AO "HomeCalls$Law" U ∧ va_AO "HomeCalls$Sheet" U
def xCtx (E : xE) (p : Program) (s : State) (m : MethodId) (args : Array Value) (meth : Method) (c : Code) (cc : ByteArray) (own : String) (nL : Nat) (init : Bool) (A : Nat → Prop) : Prop :=
  p.tables.exec = Jvm.exec ∧ c.code = cc ∧ c.maxLocals = nL ∧ s.vm.findClass own = some m.cls ∧ (∀ w ∈ xT, w.before args s = true) ∧ va_K E.1 vwCl (xtys E) s ∧ xStat E A s s.heap ∧ (∀ q : Nat, s.heap.size ≤ q → A q) ∧ (init = true → meth.name = "<init>")
def xWat (E : xE) (R : Room) (p : Program) (l : Launch) (e : Env) (s : State) (m : MethodId) (args : Array Value) (below : List Frame) (meth : Method) (c : Code) (Q : State → Prop) (A : Nat → Prop) (as0 : List Nat) (nL : Nat) (pc : Nat) (ls : xL) (st : List Value) (w : xW) (b : xB) : Prop :=
  ∀ (nw : List Nat) (H : Heap) (locs : List Loc) (la : Array Slot), b.1 ≤ R.cells ∧ b.2 ≤ R.slots → (as0 ++ nw).length = w.length → va_P E.1 vwCl (xG E (as0 ++ nw) w) H → va_D A (xG E (as0 ++ nw) w) → va_S A s.heap H locs → lv_has la nL (xlv E (as0 ++ nw) ls) →
    W p l e R s m args below meth c H locs b.1 b.2 Q (F0 m pc la (st.map (xcv E (as0 ++ nw))))
/-- how a method may end -/
def xRet (Wt : Nat → xL → List Value → xW → xB → Prop) (cc : ByteArray) (rt : Option FieldType) (K : xKo) : Prop := ∀ (pc : Nat) (ls : xL) (w : xW) (b : xB),
  (∀ (v : Int32) (ty : FieldType), decode cc pc = .ok (.ireturn, 1) → rt = some ty → narrow ty (.int v) = .int v → K (some (.int v)) w → Wt pc ls [.int v] w b) ∧
  (∀ q : Nat, decode cc pc = .ok (.areturn, 1) → rt = some (.array .int) → K (some (.ref q)) w → Wt pc ls [.ref q] w b) ∧
  (decode cc pc = .ok (.return_, 1) → rt = none → K none w → Wt pc ls [] w b)
def xOk (E : xE) (R : Room) (own : String) (cc : ByteArray) (nL : Nat) (rt : Option FieldType) (init : Bool) (e : xEl) : Prop :=
  decode cc e.1 = .ok (e.2.1, e.2.2.1) →
  ∀ (p : Program) (l : Launch) (en : Env) (s : State) (m : MethodId) (args : Array Value) (below : List Frame) (meth : Method) (c : Code) (Q : State → Prop) (A : Nat → Prop) (as0 : List Nat) (K : xKo),
    xCtx E p s m args meth c cc own nL init A → xRet (xWat E R p l en s m args below meth c Q A as0 nL) cc rt K →
    ∀ (ls : xL) (st : List Value) (w : xW) (b : xB) (go : xGo), e.2.2.2 ls st w b go K →
      (∀ t ls' st' w' b', go t ls' st' w' b' → xWat E R p l en s m args below meth c Q A as0 nL (match t with | none => e.1 + e.2.2.1 | some q => q) ls' st' w' b') → xWat E R p l en s m args below meth c Q A as0 nL e.1 ls st w b
section OK1
variable {E : xE} {R : Room} {own : String} {cc : ByteArray} {nL : Nat} {rt : Option FieldType} {init : Bool}
theorem ok_iconst (pc : Nat) {n : Int} {v : Int32} (hv : Int32.ofInt n = v) : xOk E R own cc nL rt init (pc, .iconst n, 1, xs_push (.int v)) := by
  intro hd p l en s m args below meth c Q A as0 K C hR ls st w b go h k
  intro nw H locs la hbb hlen hP hD hS hl
  exact lv_iconst C.1 C.2.1 hd hv (k none _ _ _ _ h nw H locs la hbb hlen hP hD hS hl)
theorem ok_bipush (pc : Nat) {n : Int} {v : Int32} (hv : (Int8.ofInt n).toInt32 = v) : xOk E R own cc nL rt init (pc, .bipush n, 2, xs_push (.int v)) := by
  intro hd p l en s m args below meth c Q A as0 K C hR ls st w b go h k
  intro nw H locs la hbb hlen hP hD hS hl
  exact lv_bipush C.1 C.2.1 hd hv (k none _ _ _ _ h nw H locs la hbb hlen hP hD hS hl)
theorem ok_sipush (pc : Nat) {n : Int} {v : Int32} (hv : (Int16.ofInt n).toInt32 = v) : xOk E R own cc nL rt init (pc, .sipush n, 3, xs_push (.int v)) := by
  intro hd p l en s m args below meth c Q A as0 K C hR ls st w b go h k
  intro nw H locs la hbb hlen hP hD hS hl
  exact lv_sipush C.1 C.2.1 hd hv (k none _ _ _ _ h nw H locs la hbb hlen hP hD hS hl)
theorem ok_ldc (pc : Nat) {index : Nat} {v : Int32} (hw : Cond.constant own index v ∈ xT) : xOk E R own cc nL rt init (pc, .ldc index, 2, xs_push (.int v)) := by
  intro hd p l en s m args below meth c Q A as0 K C hR ls st w b go h k
  intro nw H locs la hbb hlen hP hD hS hl
  exact lv_ldc C.1 C.2.1 C.2.2.2.1 (C.2.2.2.2.1 _ hw) hd (k none _ _ _ _ h nw H locs la hbb hlen hP hD hS hl)
theorem ok_ldc2 (pc : Nat) {index : Nat} {v : Int64} (hw : Cond.constantLong own index v ∈ xT) : xOk E R own cc nL rt init (pc, .ldc2_w index, 3, xs_push (.long v)) := by
  intro hd p l en s m args below meth c Q A as0 K C hR ls st w b go h k
  intro nw H locs la hbb hlen hP hD hS hl
  exact lv_ldc2 C.1 C.2.1 C.2.2.2.1 (C.2.2.2.2.1 _ hw) hd (k none _ _ _ _ h nw H locs la hbb hlen hP hD hS hl)
theorem ok_iload_n (pc : Nat) {i : Fin 4} {j : Nat} (hi : (i : Nat) = j) : xOk E R own cc nL rt init (pc, .iload_n i, 1, xs_il j) := by
  intro hd p l en s m args below meth c Q A as0 K C hR ls st w b go h k
  obtain ⟨v, hv, h⟩ := xld_spec h
  split at h
  · intro nw H locs la hbb hlen hP hD hS hl
    exact lv_iload_n C.1 C.2.1 hd hi (hl.2.2 _ (xlv_mem hv)) (k none _ _ _ _ h nw H locs la hbb hlen hP hD hS hl)
  · exact h.elim
theorem ok_iload (pc : Nat) {i : Nat} : xOk E R own cc nL rt init (pc, .iload i, 2, xs_il i) := by
  intro hd p l en s m args below meth c Q A as0 K C hR ls st w b go h k
  obtain ⟨v, hv, h⟩ := xld_spec h
  split at h
  · intro nw H locs la hbb hlen hP hD hS hl
    exact lv_iload C.1 C.2.1 hd (hl.2.2 _ (xlv_mem hv)) (k none _ _ _ _ h nw H locs la hbb hlen hP hD hS hl)
  · exact h.elim
theorem ok_lload_n (pc : Nat) {i : Fin 4} {j : Nat} (hi : (i : Nat) = j) : xOk E R own cc nL rt init (pc, .lload_n i, 1, xs_ll j) := by
  intro hd p l en s m args below meth c Q A as0 K C hR ls st w b go h k
  obtain ⟨v, hv, h⟩ := xld_spec h
  split at h
  · intro nw H locs la hbb hlen hP hD hS hl
    exact lv_lload_n C.1 C.2.1 hd hi (hl.2.2 _ (xlv_mem hv)) (k none _ _ _ _ h nw H locs la hbb hlen hP hD hS hl)
  · exact h.elim
theorem ok_aload_n (pc : Nat) {i : Fin 4} {j : Nat} (hi : (i : Nat) = j) : xOk E R own cc nL rt init (pc, .aload_n i, 1, xs_al j) := by
  intro hd p l en s m args below meth c Q A as0 K C hR ls st w b go h k
  obtain ⟨v, hv, h⟩ := xld_spec h
  split at h
  · intro nw H locs la hbb hlen hP hD hS hl
    exact lv_aload_n C.1 C.2.1 hd hi (hl.2.2 _ (xlv_mem hv)) (k none _ _ _ _ h nw H locs la hbb hlen hP hD hS hl)
  · intro nw H locs la hbb hlen hP hD hS hl
    exact lv_aload_n C.1 C.2.1 hd hi (hl.2.2 _ (xlv_mem hv)) (k none _ _ _ _ h nw H locs la hbb hlen hP hD hS hl)
  · exact h.elim
theorem ok_aload (pc : Nat) {i : Nat} : xOk E R own cc nL rt init (pc, .aload i, 2, xs_al i) := by
  intro hd p l en s m args below meth c Q A as0 K C hR ls st w b go h k
  obtain ⟨v, hv, h⟩ := xld_spec h
  split at h
  · intro nw H locs la hbb hlen hP hD hS hl
    exact lv_aload C.1 C.2.1 hd (hl.2.2 _ (xlv_mem hv)) (k none _ _ _ _ h nw H locs la hbb hlen hP hD hS hl)
  · intro nw H locs la hbb hlen hP hD hS hl
    exact lv_aload C.1 C.2.1 hd (hl.2.2 _ (xlv_mem hv)) (k none _ _ _ _ h nw H locs la hbb hlen hP hD hS hl)
  · exact h.elim
theorem ok_istore_n (pc : Nat) {i : Fin 4} {j : Nat} (hi : (i : Nat) = j) (hj : j < nL) : xOk E R own cc nL rt init (pc, .istore_n i, 1, xs_is j) := by
  intro hd p l en s m args below meth c Q A as0 K C hR ls st w b go h k
  unfold xs_is at h
  dsimp only at h
  split at h
  · obtain ⟨l2, h, hs⟩ := xsto_spec h
    intro nw H locs la hbb hlen hP hD hS hl
    exact lv_istore_n C.1 C.2.1 hd hi hl hj rfl (fun ls' hl' => k none _ _ _ _ h nw H locs ls' hbb hlen hP hD hS (lv_has_sub hl' (xlv_sto hs)))
  · exact h.elim
theorem ok_istore (pc : Nat) {j : Nat} (hj : j < nL) : xOk E R own cc nL rt init (pc, .istore j, 2, xs_is j) := by
  intro hd p l en s m args below meth c Q A as0 K C hR ls st w b go h k
  unfold xs_is at h
  dsimp only at h
  split at h
  · obtain ⟨l2, h, hs⟩ := xsto_spec h
    intro nw H locs la hbb hlen hP hD hS hl
    exact lv_istore C.1 C.2.1 hd hl hj rfl (fun ls' hl' => k none _ _ _ _ h nw H locs ls' hbb hlen hP hD hS (lv_has_sub hl' (xlv_sto hs)))
  · exact h.elim
theorem ok_astore_n (pc : Nat) {i : Fin 4} {j : Nat} (hi : (i : Nat) = j) (hj : j < nL) : xOk E R own cc nL rt init (pc, .astore_n i, 1, xs_as j) := by
  intro hd p l en s m args below meth c Q A as0 K C hR ls st w b go h k
  unfold xs_as at h
  dsimp only at h
  split at h
  · obtain ⟨l2, h, hs⟩ := xsto_spec h
    intro nw H locs la hbb hlen hP hD hS hl
    exact lv_astore_n C.1 C.2.1 hd hi hl hj rfl (fun ls' hl' => k none _ _ _ _ h nw H locs ls' hbb hlen hP hD hS (lv_has_sub hl' (xlv_sto hs)))
  · exact h.elim
theorem ok_astore (pc : Nat) {j : Nat} (hj : j < nL) : xOk E R own cc nL rt init (pc, .astore j, 2, xs_as j) := by
  intro hd p l en s m args below meth c Q A as0 K C hR ls st w b go h k
  unfold xs_as at h
  dsimp only at h
  split at h
  · obtain ⟨l2, h, hs⟩ := xsto_spec h
    intro nw H locs la hbb hlen hP hD hS hl
    exact lv_astore C.1 C.2.1 hd hl hj rfl (fun ls' hl' => k none _ _ _ _ h nw H locs ls' hbb hlen hP hD hS (lv_has_sub hl' (xlv_sto hs)))
  · exact h.elim
theorem ok_iinc (pc : Nat) {j : Nat} {n : Int} {d : Int32} (hd' : Int32.ofInt n = d) (hj : j < nL) : xOk E R own cc nL rt init (pc, .iinc j n, 3, xs_iinc j d) := by
  intro hd p l en s m args below meth c Q A as0 K C hR ls st w b go h k
  obtain ⟨v, hv, h⟩ := xld_spec h
  split at h
  · next x =>
    obtain ⟨l2, h, hs⟩ := xsto_spec h
    intro nw H locs la hbb hlen hP hD hS hl
    obtain ⟨kk, hk⟩ := List.getElem?_of_mem (xlv_mem (E := E) (as := as0 ++ nw) hv)
    exact lv_iinc (v := x + d) C.1 C.2.1 hd hl hk (by rw [hd']) hj rfl (fun ls' hl' => k none _ _ _ _ h nw H locs ls' hbb hlen hP hD hS (lv_has_sub hl' (xlv_sto hs)))
  · exact h.elim
theorem ok_iadd (pc : Nat) : xOk E R own cc nL rt init (pc, .iadd, 1, xs_b2 (fun x y => x + y)) := by
  intro hd p l en s m args below meth c Q A as0 K C hR ls st w b go h k
  unfold xs_b2 at h
  dsimp only at h
  split at h
  · intro nw H locs la hbb hlen hP hD hS hl
    exact lv_iadd C.1 C.2.1 hd (k none _ _ _ _ h nw H locs la hbb hlen hP hD hS hl)
  · exact h.elim
theorem ok_isub (pc : Nat) : xOk E R own cc nL rt init (pc, .isub, 1, xs_b2 (fun x y => x - y)) := by
  intro hd p l en s m args below meth c Q A as0 K C hR ls st w b go h k
  unfold xs_b2 at h
  dsimp only at h
  split at h
  · intro nw H locs la hbb hlen hP hD hS hl
    exact lv_isub C.1 C.2.1 hd (k none _ _ _ _ h nw H locs la hbb hlen hP hD hS hl)
  · exact h.elim
theorem ok_imul (pc : Nat) : xOk E R own cc nL rt init (pc, .imul, 1, xs_b2 (fun x y => x * y)) := by
  intro hd p l en s m args below meth c Q A as0 K C hR ls st w b go h k
  unfold xs_b2 at h
  dsimp only at h
  split at h
  · intro nw H locs la hbb hlen hP hD hS hl
    exact lv_imul C.1 C.2.1 hd (k none _ _ _ _ h nw H locs la hbb hlen hP hD hS hl)
  · exact h.elim
theorem ok_iand (pc : Nat) : xOk E R own cc nL rt init (pc, .iand, 1, xs_b2 (fun x y => x &&& y)) := by
  intro hd p l en s m args below meth c Q A as0 K C hR ls st w b go h k
  unfold xs_b2 at h
  dsimp only at h
  split at h
  · intro nw H locs la hbb hlen hP hD hS hl
    exact lv_iand C.1 C.2.1 hd (k none _ _ _ _ h nw H locs la hbb hlen hP hD hS hl)
  · exact h.elim
theorem ok_ior (pc : Nat) : xOk E R own cc nL rt init (pc, .ior, 1, xs_b2 (fun x y => x ||| y)) := by
  intro hd p l en s m args below meth c Q A as0 K C hR ls st w b go h k
  unfold xs_b2 at h
  dsimp only at h
  split at h
  · intro nw H locs la hbb hlen hP hD hS hl
    exact lv_ior C.1 C.2.1 hd (k none _ _ _ _ h nw H locs la hbb hlen hP hD hS hl)
  · exact h.elim
theorem ok_ixor (pc : Nat) : xOk E R own cc nL rt init (pc, .ixor, 1, xs_b2 (fun x y => x ^^^ y)) := by
  intro hd p l en s m args below meth c Q A as0 K C hR ls st w b go h k
  unfold xs_b2 at h
  dsimp only at h
  split at h
  · intro nw H locs la hbb hlen hP hD hS hl
    exact lv_ixor C.1 C.2.1 hd (k none _ _ _ _ h nw H locs la hbb hlen hP hD hS hl)
  · exact h.elim
theorem ok_ishl (pc : Nat) : xOk E R own cc nL rt init (pc, .ishl, 1, xs_b2 (fun x y => x <<< (y &&& 31))) := by
  intro hd p l en s m args below meth c Q A as0 K C hR ls st w b go h k
  unfold xs_b2 at h
  dsimp only at h
  split at h
  · intro nw H locs la hbb hlen hP hD hS hl
    exact lv_ishl C.1 C.2.1 hd (k none _ _ _ _ h nw H locs la hbb hlen hP hD hS hl)
  · exact h.elim
theorem ok_ishr (pc : Nat) : xOk E R own cc nL rt init (pc, .ishr, 1, xs_b2 (fun x y => x >>> (y &&& 31))) := by
  intro hd p l en s m args below meth c Q A as0 K C hR ls st w b go h k
  unfold xs_b2 at h
  dsimp only at h
  split at h
  · intro nw H locs la hbb hlen hP hD hS hl
    exact lv_ishr C.1 C.2.1 hd (k none _ _ _ _ h nw H locs la hbb hlen hP hD hS hl)
  · exact h.elim
theorem ok_iushr (pc : Nat) : xOk E R own cc nL rt init (pc, .iushr, 1, xs_b2 (fun x y => (x.toUInt32 >>> (y.toUInt32 &&& Int32.toUInt32 31)).toInt32)) := by
  intro hd p l en s m args below meth c Q A as0 K C hR ls st w b go h k
  unfold xs_b2 at h
  dsimp only at h
  split at h
  · intro nw H locs la hbb hlen hP hD hS hl
    exact lv_iushr C.1 C.2.1 hd rfl (k none _ _ _ _ h nw H locs la hbb hlen hP hD hS hl)
  · exact h.elim
theorem ok_idiv (pc : Nat) : xOk E R own cc nL rt init (pc, .idiv, 1, xs_div) := by
  intro hd p l en s m args below meth c Q A as0 K C hR ls st w b go h k
  unfold xs_div at h
  dsimp only at h
  split at h
  · intro nw H locs la hbb hlen hP hD hS hl
    exact lv_idiv C.1 C.2.1 hd h.1 (k none _ _ _ _ h.2 nw H locs la hbb hlen hP hD hS hl)
  · exact h.elim
theorem ok_irem (pc : Nat) : xOk E R own cc nL rt init (pc, .irem, 1, xs_rem) := by
  intro hd p l en s m args below meth c Q A as0 K C hR ls st w b go h k
  unfold xs_rem at h
  dsimp only at h
  split at h
  · intro nw H locs la hbb hlen hP hD hS hl
    exact lv_irem C.1 C.2.1 hd h.1 (k none _ _ _ _ h.2 nw H locs la hbb hlen hP hD hS hl)
  · exact h.elim
theorem ok_ineg (pc : Nat) : xOk E R own cc nL rt init (pc, .ineg, 1, xs_u1 (fun x => -x)) := by
  intro hd p l en s m args below meth c Q A as0 K C hR ls st w b go h k
  unfold xs_u1 at h
  dsimp only at h
  split at h
  · intro nw H locs la hbb hlen hP hD hS hl
    exact lv_ineg C.1 C.2.1 hd (k none _ _ _ _ h nw H locs la hbb hlen hP hD hS hl)
  · exact h.elim
theorem ok_i2b (pc : Nat) : xOk E R own cc nL rt init (pc, .i2b, 1, xs_u1 (fun x => x.toInt8.toInt32)) := by
  intro hd p l en s m args below meth c Q A as0 K C hR ls st w b go h k
  unfold xs_u1 at h
  dsimp only at h
  split at h
  · intro nw H locs la hbb hlen hP hD hS hl
    exact lv_i2b C.1 C.2.1 hd rfl (k none _ _ _ _ h nw H locs la hbb hlen hP hD hS hl)
  · exact h.elim
theorem ok_i2s (pc : Nat) : xOk E R own cc nL rt init (pc, .i2s, 1, xs_u1 (fun x => x.toInt16.toInt32)) := by
  intro hd p l en s m args below meth c Q A as0 K C hR ls st w b go h k
  unfold xs_u1 at h
  dsimp only at h
  split at h
  · intro nw H locs la hbb hlen hP hD hS hl
    exact lv_i2s C.1 C.2.1 hd rfl (k none _ _ _ _ h nw H locs la hbb hlen hP hD hS hl)
  · exact h.elim
theorem ok_i2l (pc : Nat) : xOk E R own cc nL rt init (pc, .i2l, 1, xs_i2l) := by
  intro hd p l en s m args below meth c Q A as0 K C hR ls st w b go h k
  unfold xs_i2l at h
  dsimp only at h
  split at h
  · intro nw H locs la hbb hlen hP hD hS hl
    exact lv_i2l C.1 C.2.1 hd rfl (k none _ _ _ _ h nw H locs la hbb hlen hP hD hS hl)
  · exact h.elim
theorem ok_l2i (pc : Nat) : xOk E R own cc nL rt init (pc, .l2i, 1, xs_l2i) := by
  intro hd p l en s m args below meth c Q A as0 K C hR ls st w b go h k
  unfold xs_l2i at h
  dsimp only at h
  split at h
  · intro nw H locs la hbb hlen hP hD hS hl
    exact lv_l2i C.1 C.2.1 hd rfl (k none _ _ _ _ h nw H locs la hbb hlen hP hD hS hl)
  · exact h.elim
theorem ok_land (pc : Nat) : xOk E R own cc nL rt init (pc, .land, 1, xs_l2 (fun x y => x &&& y)) := by
  intro hd p l en s m args below meth c Q A as0 K C hR ls st w b go h k
  unfold xs_l2 at h
  dsimp only at h
  split at h
  · intro nw H locs la hbb hlen hP hD hS hl
    exact lv_land C.1 C.2.1 hd (k none _ _ _ _ h nw H locs la hbb hlen hP hD hS hl)
  · exact h.elim
theorem ok_lor (pc : Nat) : xOk E R own cc nL rt init (pc, .lor, 1, xs_l2 (fun x y => x ||| y)) := by
  intro hd p l en s m args below meth c Q A as0 K C hR ls st w b go h k
  unfold xs_l2 at h
  dsimp only at h
  split at h
  · intro nw H locs la hbb hlen hP hD hS hl
    exact lv_lor C.1 C.2.1 hd (k none _ _ _ _ h nw H locs la hbb hlen hP hD hS hl)
  · exact h.elim
theorem ok_lshl (pc : Nat) : xOk E R own cc nL rt init (pc, .lshl, 1, xs_lsh (fun x y => x <<< (y.toInt64 &&& 63))) := by
  intro hd p l en s m args below meth c Q A as0 K C hR ls st w b go h k
  unfold xs_lsh at h
  dsimp only at h
  split at h
  · intro nw H locs la hbb hlen hP hD hS hl
    exact lv_lshl C.1 C.2.1 hd rfl (k none _ _ _ _ h nw H locs la hbb hlen hP hD hS hl)
  · exact h.elim
theorem ok_lshr (pc : Nat) : xOk E R own cc nL rt init (pc, .lshr, 1, xs_lsh (fun x y => x >>> (y.toInt64 &&& 63))) := by
  intro hd p l en s m args below meth c Q A as0 K C hR ls st w b go h k
  unfold xs_lsh at h
  dsimp only at h
  split at h
  · intro nw H locs la hbb hlen hP hD hS hl
    exact lv_lshr C.1 C.2.1 hd rfl (k none _ _ _ _ h nw H locs la hbb hlen hP hD hS hl)
  · exact h.elim
theorem ok_lushr (pc : Nat) : xOk E R own cc nL rt init (pc, .lushr, 1, xs_lsh (fun x y => (x.toUInt64 >>> (y.toInt64.toUInt64 &&& Int64.toUInt64 63)).toInt64)) := by
  intro hd p l en s m args below meth c Q A as0 K C hR ls st w b go h k
  unfold xs_lsh at h
  dsimp only at h
  split at h
  · intro nw H locs la hbb hlen hP hD hS hl
    exact lv_lushr C.1 C.2.1 hd rfl (k none _ _ _ _ h nw H locs la hbb hlen hP hD hS hl)
  · exact h.elim
theorem ok_dup2 (pc : Nat) : xOk E R own cc nL rt init (pc, .dup2, 1, xs_dup2) := by
  intro hd p l en s m args below meth c Q A as0 K C hR ls st w b go h k
  unfold xs_dup2 at h
  dsimp only at h
  split at h
  · intro nw H locs la hbb hlen hP hD hS hl
    exact lv_dup2_11 C.1 C.2.1 hd rfl rfl (k none _ _ _ _ h nw H locs la hbb hlen hP hD hS hl)
  · exact h.elim
theorem ok_pop (pc : Nat) : xOk E R own cc nL rt init (pc, .pop, 1, xs_pop) := by
  intro hd p l en s m args below meth c Q A as0 K C hR ls st w b go h k
  unfold xs_pop at h
  dsimp only at h
  split at h
  · intro nw H locs la hbb hlen hP hD hS hl
    exact lv_pop C.1 C.2.1 hd rfl (k none _ _ _ _ h nw H locs la hbb hlen hP hD hS hl)
  · exact h.elim
theorem ok_dup (pc : Nat) : xOk E R own cc nL rt init (pc, .dup, 1, xs_dup) := by
  intro hd p l en s m args below meth c Q A as0 K C hR ls st w b go h k
  unfold xs_dup at h
  dsimp only at h
  split at h
  · intro nw H locs la hbb hlen hP hD hS hl
    exact lv_dup C.1 C.2.1 hd rfl (k none _ _ _ _ h nw H locs la hbb hlen hP hD hS hl)
  · intro nw H locs la hbb hlen hP hD hS hl
    exact lv_dup C.1 C.2.1 hd rfl (k none _ _ _ _ h nw H locs la hbb hlen hP hD hS hl)
  · exact h.elim
theorem ok_if_eq (pc : Nat) {off : Int} {tgt : Nat} (ht : (pc : Int) + off = (tgt : Int)) : xOk E R own cc nL rt init (pc, .ifCond .eq off, 3, xs_if (fun x => x = 0) tgt) := by
  intro hd p l en s m args below meth c Q A as0 K C hR ls st w b go h k
  unfold xs_if at h
  dsimp only at h
  split at h
  · intro nw H locs la hbb hlen hP hD hS hl
    exact lv_if_eq C.1 C.2.1 hd ht (fun z => k (some tgt) _ _ _ _ (h.1 z) nw H locs la hbb hlen hP hD hS hl) (fun z => k none _ _ _ _ (h.2 z) nw H locs la hbb hlen hP hD hS hl)
  · exact h.elim
theorem ok_ic_eq (pc : Nat) {off : Int} {tgt : Nat} (ht : (pc : Int) + off = (tgt : Int)) : xOk E R own cc nL rt init (pc, .if_icmp .eq off, 3, xs_ic (fun x y => x = y) tgt) := by
  intro hd p l en s m args below meth c Q A as0 K C hR ls st w b go h k
  unfold xs_ic at h
  dsimp only at h
  split at h
  · intro nw H locs la hbb hlen hP hD hS hl
    exact lv_icmp_eq C.1 C.2.1 hd ht (fun z => k (some tgt) _ _ _ _ (h.1 z) nw H locs la hbb hlen hP hD hS hl) (fun z => k none _ _ _ _ (h.2 z) nw H locs la hbb hlen hP hD hS hl)
  · exact h.elim
theorem ok_if_ne (pc : Nat) {off : Int} {tgt : Nat} (ht : (pc : Int) + off = (tgt : Int)) : xOk E R own cc nL rt init (pc, .ifCond .ne off, 3, xs_ifn (fun x => x = 0) tgt) := by
  intro hd p l en s m args below meth c Q A as0 K C hR ls st w b go h k
  unfold xs_ifn at h
  dsimp only at h
  split at h
  · intro nw H locs la hbb hlen hP hD hS hl
    exact lv_if_ne C.1 C.2.1 hd ht (fun z => k (some tgt) _ _ _ _ (h.1 z) nw H locs la hbb hlen hP hD hS hl) (fun z => k none _ _ _ _ (h.2 z) nw H locs la hbb hlen hP hD hS hl)
  · exact h.elim
theorem ok_ic_ne (pc : Nat) {off : Int} {tgt : Nat} (ht : (pc : Int) + off = (tgt : Int)) : xOk E R own cc nL rt init (pc, .if_icmp .ne off, 3, xs_icn (fun x y => x = y) tgt) := by
  intro hd p l en s m args below meth c Q A as0 K C hR ls st w b go h k
  unfold xs_icn at h
  dsimp only at h
  split at h
  · intro nw H locs la hbb hlen hP hD hS hl
    exact lv_icmp_ne C.1 C.2.1 hd ht (fun z => k (some tgt) _ _ _ _ (h.1 z) nw H locs la hbb hlen hP hD hS hl) (fun z => k none _ _ _ _ (h.2 z) nw H locs la hbb hlen hP hD hS hl)
  · exact h.elim
theorem ok_if_lt (pc : Nat) {off : Int} {tgt : Nat} (ht : (pc : Int) + off = (tgt : Int)) : xOk E R own cc nL rt init (pc, .ifCond .lt off, 3, xs_if (fun x => x < 0) tgt) := by
  intro hd p l en s m args below meth c Q A as0 K C hR ls st w b go h k
  unfold xs_if at h
  dsimp only at h
  split at h
  · intro nw H locs la hbb hlen hP hD hS hl
    exact lv_if_lt C.1 C.2.1 hd ht (fun z => k (some tgt) _ _ _ _ (h.1 z) nw H locs la hbb hlen hP hD hS hl) (fun z => k none _ _ _ _ (h.2 z) nw H locs la hbb hlen hP hD hS hl)
  · exact h.elim
theorem ok_ic_lt (pc : Nat) {off : Int} {tgt : Nat} (ht : (pc : Int) + off = (tgt : Int)) : xOk E R own cc nL rt init (pc, .if_icmp .lt off, 3, xs_ic (fun x y => x < y) tgt) := by
  intro hd p l en s m args below meth c Q A as0 K C hR ls st w b go h k
  unfold xs_ic at h
  dsimp only at h
  split at h
  · intro nw H locs la hbb hlen hP hD hS hl
    exact lv_icmp_lt C.1 C.2.1 hd ht (fun z => k (some tgt) _ _ _ _ (h.1 z) nw H locs la hbb hlen hP hD hS hl) (fun z => k none _ _ _ _ (h.2 z) nw H locs la hbb hlen hP hD hS hl)
  · exact h.elim
theorem ok_if_ge (pc : Nat) {off : Int} {tgt : Nat} (ht : (pc : Int) + off = (tgt : Int)) : xOk E R own cc nL rt init (pc, .ifCond .ge off, 3, xs_if (fun x => 0 ≤ x) tgt) := by
  intro hd p l en s m args below meth c Q A as0 K C hR ls st w b go h k
  unfold xs_if at h
  dsimp only at h
  split at h
  · intro nw H locs la hbb hlen hP hD hS hl
    exact lv_if_ge C.1 C.2.1 hd ht (fun z => k (some tgt) _ _ _ _ (h.1 z) nw H locs la hbb hlen hP hD hS hl) (fun z => k none _ _ _ _ (h.2 z) nw H locs la hbb hlen hP hD hS hl)
  · exact h.elim
theorem ok_ic_ge (pc : Nat) {off : Int} {tgt : Nat} (ht : (pc : Int) + off = (tgt : Int)) : xOk E R own cc nL rt init (pc, .if_icmp .ge off, 3, xs_ic (fun x y => y ≤ x) tgt) := by
  intro hd p l en s m args below meth c Q A as0 K C hR ls st w b go h k
  unfold xs_ic at h
  dsimp only at h
  split at h
  · intro nw H locs la hbb hlen hP hD hS hl
    exact lv_icmp_ge C.1 C.2.1 hd ht (fun z => k (some tgt) _ _ _ _ (h.1 z) nw H locs la hbb hlen hP hD hS hl) (fun z => k none _ _ _ _ (h.2 z) nw H locs la hbb hlen hP hD hS hl)
  · exact h.elim
theorem ok_if_gt (pc : Nat) {off : Int} {tgt : Nat} (ht : (pc : Int) + off = (tgt : Int)) : xOk E R own cc nL rt init (pc, .ifCond .gt off, 3, xs_if (fun x => 0 < x) tgt) := by
  intro hd p l en s m args below meth c Q A as0 K C hR ls st w b go h k
  unfold xs_if at h
  dsimp only at h
  split at h
  · intro nw H locs la hbb hlen hP hD hS hl
    exact lv_if_gt C.1 C.2.1 hd ht (fun z => k (some tgt) _ _ _ _ (h.1 z) nw H locs la hbb hlen hP hD hS hl) (fun z => k none _ _ _ _ (h.2 z) nw H locs la hbb hlen hP hD hS hl)
  · exact h.elim
theorem ok_ic_gt (pc : Nat) {off : Int} {tgt : Nat} (ht : (pc : Int) + off = (tgt : Int)) : xOk E R own cc nL rt init (pc, .if_icmp .gt off, 3, xs_ic (fun x y => y < x) tgt) := by
  intro hd p l en s m args below meth c Q A as0 K C hR ls st w b go h k
  unfold xs_ic at h
  dsimp only at h
  split at h
  · intro nw H locs la hbb hlen hP hD hS hl
    exact lv_icmp_gt C.1 C.2.1 hd ht (fun z => k (some tgt) _ _ _ _ (h.1 z) nw H locs la hbb hlen hP hD hS hl) (fun z => k none _ _ _ _ (h.2 z) nw H locs la hbb hlen hP hD hS hl)
  · exact h.elim
theorem ok_if_le (pc : Nat) {off : Int} {tgt : Nat} (ht : (pc : Int) + off = (tgt : Int)) : xOk E R own cc nL rt init (pc, .ifCond .le off, 3, xs_if (fun x => x ≤ 0) tgt) := by
  intro hd p l en s m args below meth c Q A as0 K C hR ls st w b go h k
  unfold xs_if at h
  dsimp only at h
  split at h
  · intro nw H locs la hbb hlen hP hD hS hl
    exact lv_if_le C.1 C.2.1 hd ht (fun z => k (some tgt) _ _ _ _ (h.1 z) nw H locs la hbb hlen hP hD hS hl) (fun z => k none _ _ _ _ (h.2 z) nw H locs la hbb hlen hP hD hS hl)
  · exact h.elim
theorem ok_ic_le (pc : Nat) {off : Int} {tgt : Nat} (ht : (pc : Int) + off = (tgt : Int)) : xOk E R own cc nL rt init (pc, .if_icmp .le off, 3, xs_ic (fun x y => x ≤ y) tgt) := by
  intro hd p l en s m args below meth c Q A as0 K C hR ls st w b go h k
  unfold xs_ic at h
  dsimp only at h
  split at h
  · intro nw H locs la hbb hlen hP hD hS hl
    exact lv_icmp_le C.1 C.2.1 hd ht (fun z => k (some tgt) _ _ _ _ (h.1 z) nw H locs la hbb hlen hP hD hS hl) (fun z => k none _ _ _ _ (h.2 z) nw H locs la hbb hlen hP hD hS hl)
  · exact h.elim
theorem ok_goto (pc : Nat) {off : Int} {tgt : Nat} (ht : (pc : Int) + off = (tgt : Int)) : xOk E R own cc nL rt init (pc, .goto off, 3, xs_goto tgt) := by
  intro hd p l en s m args below meth c Q A as0 K C hR ls st w b go h k
  intro nw H locs la hbb hlen hP hD hS hl
  exact lv_goto C.1 C.2.1 hd ht (k (some tgt) _ _ _ _ h nw H locs la hbb hlen hP hD hS hl)
theorem xsw_off {x : Int32} {d : Nat} {go : Nat → Prop} {pc : Nat} : ∀ {ps : List (Int32 × Nat)} {qs : List (Int × Int)} {df : Int}, xsw x d go ps → qs = ps.map (fun q => (q.1.toInt, (q.2 : Int) - pc)) → df = (d : Int) - pc → ∃ t : Nat, go t ∧ Op.lookupswitch.offset qs df x.toInt = (t : Int) - pc
  | [], qs, df, h, hq, hd => ⟨d, h, by subst hq; subst hd; rfl⟩
  | q :: r, qs, df, h, hq, hd => by
    subst hq
    rw [List.map_cons, Op.lookupswitch.offset_cons]
    by_cases z : x = q.1
    · exact ⟨q.2, h.1 z, by rw [if_pos (by rw [z])]⟩
    · obtain ⟨t, h1, h2⟩ := xsw_off (pc := pc) (h.2 z) rfl hd
      refine ⟨t, h1, ?_⟩
      rw [if_neg (fun y => z (Int32.toInt_inj.mp y.symm))]
      exact h2
theorem ok_look (pc : Nat) {df : Int} {ps : Array (Int × Int)} {len : Nat} {lst : List (Int32 × Nat)} {d : Nat} (hp : (ps.toList.zip (ps.toList.drop 1)).all (fun (a, next) => a.1 < next.1) = true) (hq : ps.toList = lst.map (fun q => (q.1.toInt, (q.2 : Int) - pc))) (hdf : df = (d : Int) - pc) : xOk E R own cc nL rt init (pc, .lookupswitch df ps, len, xs_sw lst d) := by
  intro hd p l en s m args below meth c Q A as0 K C hR ls st w b go h k
  unfold xs_sw at h
  dsimp only at h
  split at h
  · next x st' =>
    obtain ⟨t, h1, h2⟩ := xsw_off h hq hdf
    intro nw H locs la hbb hlen hP hD hS hl
    exact lv_lookup (tgt := t) C.1 C.2.1 hd hp h2 (by omega) (k (some t) _ _ _ _ h1 nw H locs la hbb hlen hP hD hS hl)
  · exact h.elim
theorem xsw_in {x : Int32} {d : Nat} {go : Nat → Prop} : ∀ {ps : List (Int32 × Nat)}, xsw x d go ps → (∃ (i : Nat) (t : Nat), ps[i]? = some (x, t) ∧ go t) ∨ ((∀ q ∈ ps, ¬ x = q.1) ∧ go d)
  | [], h => Or.inr ⟨fun q hq => by (cases hq), h⟩
  | q :: r, h => by
    by_cases z : x = q.1
    · exact Or.inl ⟨0, q.2, by rw [z]; rfl, h.1 z⟩
    · rcases xsw_in (h.2 z) with ⟨i, t, h1, h2⟩ | ⟨h1, h2⟩
      · exact Or.inl ⟨i + 1, t, by rw [List.getElem?_cons_succ]; exact h1, h2⟩
      · refine Or.inr ⟨fun y hy => ?_, h2⟩
        rcases List.mem_cons.mp hy with rfl | hy
        · exact z
        · exact h1 y hy
/-- the numbers go on from lo, one by one -/
def xtbl (pc : Nat) (lo : Int) (offs : Array Int) : Nat → List (Int32 × Nat) → Bool
  | _, [] => true
  | i, q :: r => decide (q.1.toInt = lo + (i : Int)) && (decide (offs[i]? = some ((q.2 : Int) - (pc : Int))) && xtbl pc lo offs (i + 1) r)
theorem xtbl_at {pc : Nat} {lo : Int} {offs : Array Int} : ∀ {ps : List (Int32 × Nat)} {j i : Nat} {q : Int32 × Nat}, xtbl pc lo offs j ps = true → ps[i]? = some q → q.1.toInt = lo + ((j + i : Nat) : Int) ∧ offs[j + i]? = some ((q.2 : Int) - (pc : Int))
  | [], j, i, q, _, h => by simp at h
  | a :: r, j, 0, q, h, e => by
    simp only [List.getElem?_cons_zero, Option.some.injEq] at e
    subst e
    unfold xtbl at h
    rw [Bool.and_eq_true, Bool.and_eq_true] at h
    exact ⟨of_decide_eq_true h.1, of_decide_eq_true h.2.1⟩
  | a :: r, j, i + 1, q, h, e => by
    unfold xtbl at h
    rw [Bool.and_eq_true, Bool.and_eq_true] at h
    have := xtbl_at (j := j + 1) (i := i) h.2.2 (by rw [List.getElem?_cons_succ] at e; exact e)
    rw [show j + (i + 1) = j + 1 + i by omega]
    exact this
theorem ok_table (pc : Nat) {df lo hi : Int} {offs : Array Int} {len : Nat} {lst : List (Int32 × Nat)} {d : Nat} (hq : xtbl pc lo offs 0 lst = true) (hn : hi = lo + (lst.length : Int) - 1) (hdf : df = (d : Int) - pc) : xOk E R own cc nL rt init (pc, .tableswitch df lo hi offs, len, xs_sw lst d) := by
  intro hd p l en s m args below meth c Q A as0 K C hR ls st w b go h k
  unfold xs_sw at h
  dsimp only at h
  split at h
  · next x st' =>
    intro nw H locs la hbb hlen hP hD hS hl
    rcases xsw_in h with ⟨i, t, h1, h2⟩ | ⟨h1, h2⟩
    · obtain ⟨e1, e2⟩ := xtbl_at hq h1
      rw [Nat.zero_add] at e1 e2
      have hi' : i < lst.length := (List.getElem?_eq_some_iff.mp h1).1
      dsimp only at e1 e2
      exact lv_tableIn (tgt := t) C.1 C.2.1 hd (by omega) (by omega) (by rw [show (x.toInt - lo).toNat = i by omega]; exact e2) (by omega) (k (some t) _ _ _ _ h2 nw H locs la hbb hlen hP hD hS hl)
    · refine lv_tableOut (tgt := d) C.1 C.2.1 hd ?_ (by omega) (k (some d) _ _ _ _ h2 nw H locs la hbb hlen hP hD hS hl)
      by_cases z : x.toInt < lo ∨ hi < x.toInt
      · exact z
      · exfalso
        have hi' : (x.toInt - lo).toNat < lst.length := by omega
        have e := List.getElem?_eq_getElem hi'
        obtain ⟨e1, -⟩ := xtbl_at hq e
        rw [Nat.zero_add] at e1
        exact h1 _ (List.getElem_mem hi') (Int32.toInt_inj.mp (by rw [e1]; omega))
  · exact h.elim
end OK1
end
section
/-! ===== fields, arrays, tables, making, returning ===== -/
def xQn (t : Nat) : String := match t with
  | 0 => "HomeCalls$Law"
  | _ => "HomeCalls$Sheet"
section OK2
variable {E : xE} {R : Room} {own : String} {cc : ByteArray} {nL : Nat} {rt : Option FieldType} {init : Bool}
theorem ok_gf (pc : Nat) {ci k0 index N : Nat} {Cn : String} {T : u_T} (hc : vwCl[ci]? = some (Cn, T, N)) (hin : ∀ w ∈ u_ws Cn T N, w ∈ xT) (hk : k0 < N) (hlink : Cond.fieldLink own index (T k0).1 (T k0).2.1 (T k0).2.2.1 ∈ xT) : xOk E R own cc nL rt init (pc, .getfield index, 3, xs_gf ci k0) := by
  intro hd p l en s m args below meth c Q A as0 K C hR ls st w b go h k
  unfold xs_gf at h
  dsimp only at h
  split at h
  · next q st' =>
    obtain ⟨cl, hcl, h1⟩ := xrd_spec h
    clear h
    split at h1
    · next cj fs =>
      split at h1
      · next e =>
        have e := xbeq e
        subst e
        obtain ⟨v, hv, h⟩ := xfg_spec h1
        intro nw H locs la hbb hlen hP hD hS hl
        have he := xG_get (E := E) hlen hcl
        exact va_get C.1 C.2.1 C.2.2.2.2.1 hin C.2.2.2.1 C.2.2.2.2.2.1 hP q he hc k0 hk (C.2.2.2.2.1 _ hlink) (fun _ h => h) (v := xcv E (as0 ++ nw) v) (by rw [List.getElem?_map, hv]; rfl) hd (k none _ _ _ _ h nw H locs la hbb hlen hP hD hS hl)
      · exact h1.elim
    · exact h1.elim
  · exact h.elim
theorem x_fset {E : xE} {as : List Nat} {w : xW} {q ci k0 : Nat} {fs : List Value} {v v' : Value} (hv : xcv E as v = v') (hl : as.length = w.length) (hq : q < w.length) : (xG E as w).set q (as.getD q 0, .inr (ci, (fs.map (xcv E as)).set k0 v')) = xG E as (w.set q (.inr (.inr (ci, fs.set k0 v)))) := by
  rw [← xG_set hl hq, ← hv, ← List.map_set]
  rfl
theorem x_wlen {w : xW} {q : Nat} {c : xC} : (w.set q c).length = w.length := List.length_set
theorem ok_pf (pc : Nat) {z : Bool} {ci k0 index N : Nat} {Cn : String} {T : u_T} {ty0 : Nat → FieldType} (hc : vwCl[ci]? = some (Cn, T, N)) (hin : ∀ w ∈ u_ws Cn T N, w ∈ xT) (hty : ∀ k, k < N → parseFieldDescriptor (T k).2.2.1 = some (ty0 k)) (hnm : ∀ a, a < N → ∀ b, b < N → a ≠ b → (T a).2.1 ≠ (T b).2.1) (hk : k0 < N) (hlink : Cond.fieldLink own index (T k0).1 (T k0).2.1 (T k0).2.2.1 ∈ xT)
    (hfin : (T k0).2.2.2 = false) (hz : ty0 k0 = match z with | true => .boolean | false => .int) : xOk E R own cc nL rt init (pc, .putfield index, 3, xs_pf z ci k0) := by
  intro hd p l en s m args below meth c Q A as0 K C hR ls st w b go h k
  unfold xs_pf at h
  dsimp only at h
  split at h
  · next n q st' =>
    obtain ⟨cl, hcl, h1⟩ := xrd_spec h
    clear h
    split at h1
    · next cj fs =>
      split at h1
      · next e =>
        have e := xbeq e
        subst e
        obtain ⟨hl0, h2⟩ := xfs_spec h1
        obtain ⟨hq, h⟩ := xwr_spec h2
        intro nw H locs la hbb hlen hP hD hS hl
        have he := xG_get (E := E) hlen hcl
        have hf : narrow (ty0 k0) (.int n) = .int n ∧ fits (ty0 k0) (.int n) = true ∧ go none ls st' (w.set q (.inr (.inr (cj, fs.set k0 (.int n))))) b := by
          rw [hz]
          cases z with
          | true => rcases h with ⟨rfl | rfl, h⟩ <;> exact ⟨rfl, rfl, h⟩
          | false => exact ⟨rfl, rfl, h⟩
        refine va_put C.1 C.2.1 C.2.2.2.2.1 hin ty0 hty hnm C.2.2.2.1 C.2.2.2.2.2.1 hP hD hS q he hc k0 hk (C.2.2.2.2.1 _ hlink) (fun _ h => h) hfin (hty k0 hk) hf.1 hf.2.1 (by rw [List.length_map]; exact hl0) hd (fun H1 locs1 hP hD hS => ?_)
        rw [x_fset (E := E) (ci := cj) (k0 := k0) (fs := fs) (v := .int n) (v' := xcv E (as0 ++ nw) (.int n)) rfl hlen hq] at hP hD
        exact k none _ _ _ _ hf.2.2 nw H1 locs1 la hbb (by rw [x_wlen]; exact hlen) hP hD hS hl
      · exact h1.elim
    · exact h1.elim
  · exact h.elim
theorem ok_pfr (pc : Nat) {ci k0 index N : Nat} {Cn : String} {T : u_T} {ty0 : Nat → FieldType} (hc : vwCl[ci]? = some (Cn, T, N)) (hin : ∀ w ∈ u_ws Cn T N, w ∈ xT) (hty : ∀ k, k < N → parseFieldDescriptor (T k).2.2.1 = some (ty0 k)) (hnm : ∀ a, a < N → ∀ b, b < N → a ≠ b → (T a).2.1 ≠ (T b).2.1) (hk : k0 < N) (hlink : Cond.fieldLink own index (T k0).1 (T k0).2.1 (T k0).2.2.1 ∈ xT)
    (hfin : (T k0).2.2.2 = true) (hini : init = true) (hdecl : (T k0).1 = own) (hz : ∀ a : Nat, narrow (ty0 k0) (.ref a) = .ref a ∧ fits (ty0 k0) (.ref a) = true) : xOk E R own cc nL rt init (pc, .putfield index, 3, xs_pfr ci k0) := by
  intro hd p l en s m args below meth c Q A as0 K C hR ls st w b go h k
  unfold xs_pfr at h
  dsimp only at h
  split at h
  · next n q st' =>
    obtain ⟨cl, hcl, h1⟩ := xrd_spec h
    clear h
    split at h1
    · next cj fs =>
      split at h1
      · next e =>
        have e := xbeq e
        subst e
        obtain ⟨hl0, h2⟩ := xfs_spec h1
        obtain ⟨hq, h⟩ := xwr_spec h2
        intro nw H locs la hbb hlen hP hD hS hl
        have he := xG_get (E := E) hlen hcl
        refine va_putF C.1 C.2.1 C.2.2.2.2.1 hin ty0 hty hnm C.2.2.2.1 C.2.2.2.2.2.1 hP hD hS q he hc k0 hk (C.2.2.2.2.1 _ hlink) (fun _ h => h) hfin (C.2.2.2.2.2.2.2.2 hini) hdecl (hty k0 hk) (v := .ref ((as0 ++ nw).getD n 0)) (hz _).1 (hz _).2 (by rw [List.length_map]; exact hl0) hd (fun H1 locs1 hP hD hS => ?_)
        rw [x_fset (E := E) (ci := cj) (k0 := k0) (fs := fs) (v := .ref n) (v' := .ref ((as0 ++ nw).getD n 0)) rfl hlen hq] at hP hD
        exact k none _ _ _ _ h nw H1 locs1 la hbb (by rw [x_wlen]; exact hlen) hP hD hS hl
      · exact h1.elim
    · exact h1.elim
  · exact h.elim
theorem ok_gs0 (pc : Nat) {index : Nat} (hlink : Cond.fieldLink own index "HomeCalls" "IS" "[I" ∈ xT) : xOk E R own cc nL rt init (pc, .getstatic index, 3, xs_push (.float 0)) := by
  intro hd p l en s m args below meth c Q A as0 K C hR ls st w b go h k
  intro nw H locs la hbb hlen hP hD hS hl
  exact va_gets C.1 C.2.1 C.2.2.2.2.2.2.1.2.1 hS C.2.2.2.1 (C.2.2.2.2.1 _ hlink) (fun _ h => h) hd (k none _ _ _ _ h nw H locs la hbb hlen hP hD hS hl)
theorem ok_gs1 (pc : Nat) {index : Nat} (hlink : Cond.fieldLink own index "HomeCalls$Reader" "NAMES_OF_USES" "[C" ∈ xT) : xOk E R own cc nL rt init (pc, .getstatic index, 3, xs_push (.float 1)) := by
  intro hd p l en s m args below meth c Q A as0 K C hR ls st w b go h k
  intro nw H locs la hbb hlen hP hD hS hl
  exact va_gets C.1 C.2.1 C.2.2.2.2.2.2.1.2.2.1 hS C.2.2.2.1 (C.2.2.2.2.1 _ hlink) (fun _ h => h) hd (k none _ _ _ _ h nw H locs la hbb hlen hP hD hS hl)
theorem ok_gs2 (pc : Nat) {index : Nat} (hlink : Cond.fieldLink own index "HomeCalls$Speaker" "BODIES" "[I" ∈ xT) : xOk E R own cc nL rt init (pc, .getstatic index, 3, xs_push (.float 2)) := by
  intro hd p l en s m args below meth c Q A as0 K C hR ls st w b go h k
  intro nw H locs la hbb hlen hP hD hS hl
  exact va_gets C.1 C.2.1 C.2.2.2.2.2.2.1.2.2.2.1 hS C.2.2.2.1 (C.2.2.2.2.1 _ hlink) (fun _ h => h) hd (k none _ _ _ _ h nw H locs la hbb hlen hP hD hS hl)
theorem ok_tldi (pc : Nat) {j : UInt32} {N : Nat} {f : Nat → Int32} (hm : (j, FieldType.int, N, f) ∈ xtb E) : xOk E R own cc nL rt init (pc, .iaload, 1, xs_tld j N f) := by
  intro hd p l en s m args below meth c Q A as0 K C hR ls st w b go h k
  unfold xs_tld at h
  dsimp only at h
  split at h
  · next i t st' =>
    obtain ⟨rfl, hin, h⟩ := h
    intro nw H locs la hbb hlen hP hD hS hl
    exact va_ti C.1 C.2.1 (C.2.2.2.2.2.2.1.1 _ hm) hS hin rfl hd (k none _ _ _ _ h nw H locs la hbb hlen hP hD hS hl)
  · exact h.elim
theorem ok_tldc (pc : Nat) {j : UInt32} {N : Nat} {f : Nat → Int32} (hm : (j, FieldType.char, N, f) ∈ xtb E) : xOk E R own cc nL rt init (pc, .caload, 1, xs_tld j N f) := by
  intro hd p l en s m args below meth c Q A as0 K C hR ls st w b go h k
  unfold xs_tld at h
  dsimp only at h
  split at h
  · next i t st' =>
    obtain ⟨rfl, hin, h⟩ := h
    intro nw H locs la hbb hlen hP hD hS hl
    exact va_tc C.1 C.2.1 (C.2.2.2.2.2.2.1.1 _ hm) hS hin rfl hd (k none _ _ _ _ h nw H locs la hbb hlen hP hD hS hl)
  · exact h.elim
theorem ok_tlen (pc : Nat) {j : UInt32} {N : Nat} {f : Nat → Int32} (hm : (j, FieldType.int, N, f) ∈ xtb E) : xOk E R own cc nL rt init (pc, .arraylength, 1, xs_tlen j N) := by
  intro hd p l en s m args below meth c Q A as0 K C hR ls st w b go h k
  unfold xs_tlen at h
  dsimp only at h
  split at h
  · next t st' =>
    obtain ⟨rfl, h⟩ := h
    intro nw H locs la hbb hlen hP hD hS hl
    exact va_tlen C.1 C.2.1 (C.2.2.2.2.2.2.1.1 _ hm) hS rfl hd (k none _ _ _ _ h nw H locs la hbb hlen hP hD hS hl)
  · exact h.elim
theorem ok_iald (pc : Nat) : xOk E R own cc nL rt init (pc, .iaload, 1, xs_iald) := by
  intro hd p l en s m args below meth c Q A as0 K C hR ls st w b go h k
  unfold xs_iald at h
  dsimp only at h
  split at h
  · next i q st' =>
    obtain ⟨cl, hcl, h1⟩ := xrd_spec h
    clear h
    split at h1
    · next n f =>
      intro nw H locs la hbb hlen hP hD hS hl
      exact va_iald C.1 C.2.1 C.2.2.2.2.2.1 hP q 0 (xG_get (E := E) hlen hcl) rfl h1.1 hd (k none _ _ _ _ h1.2 nw H locs la hbb hlen hP hD hS hl)
    · exact h1.elim
  · exact h.elim
theorem ok_iast (pc : Nat) : xOk E R own cc nL rt init (pc, .iastore, 1, xs_iast) := by
  intro hd p l en s m args below meth c Q A as0 K C hR ls st w b go h k
  unfold xs_iast at h
  dsimp only at h
  split at h
  · next v i q st' =>
    obtain ⟨cl, hcl, h1⟩ := xrd_spec h
    clear h
    split at h1
    · next n f =>
      obtain ⟨hq, h2⟩ := xwr_spec h1.2
      intro nw H locs la hbb hlen hP hD hS hl
      refine va_iast C.1 C.2.1 C.2.2.2.2.2.1 hP hD hS q 0 (xG_get (E := E) hlen hcl) rfl h1.1 hd (fun H1 locs1 hP hD hS => ?_)
      have e := xG_set (E := E) (c := .inl (n, upd f i.toNatClampNeg v)) hlen hq
      exact k none _ _ _ _ h2 nw H1 locs1 la hbb (by rw [x_wlen]; exact hlen) (by rw [← e]; exact hP) (by rw [← e]; exact hD) hS hl
    · exact h1.elim
  · exact h.elim
theorem ok_alen (pc : Nat) : xOk E R own cc nL rt init (pc, .arraylength, 1, xs_alen) := by
  intro hd p l en s m args below meth c Q A as0 K C hR ls st w b go h k
  unfold xs_alen at h
  dsimp only at h
  split at h
  · next q st' =>
    obtain ⟨cl, hcl, h1⟩ := xrd_spec h
    clear h
    split at h1
    · next n f =>
      intro nw H locs la hbb hlen hP hD hS hl
      exact va_alen C.1 C.2.1 C.2.2.2.2.2.1 hP q 0 (xG_get (E := E) hlen hcl) (ty := .int) rfl rfl hd (k none _ _ _ _ h1 nw H locs la hbb hlen hP hD hS hl)
    · exact h1.elim
  · exact h.elim
theorem x_tyq {E : xE} {t : Nat} (ht : t = 0 ∨ t = 1) : ∃ (t0 : Nat) (Cn : String), (xtys E)[t0]? = some (xct E t, .object Cn) ∧ Cn = (xQn t) := by
  rcases ht with rfl | rfl
  · exact ⟨1, _, rfl, rfl⟩
  · exact ⟨2, _, rfl, rfl⟩
theorem ok_aald (pc : Nat) {t : Nat} (ht : t = 0 ∨ t = 1) : xOk E R own cc nL rt init (pc, .aaload, 1, xs_aald t) := by
  intro hd p l en s m args below meth c Q A as0 K C hR ls st w b go h k
  unfold xs_aald at h
  dsimp only at h
  split at h
  · next i q st' =>
    obtain ⟨cl, hcl, h1⟩ := xrd_spec h
    clear h
    split at h1
    · next t' xs =>
      split at h1
      · next e =>
        have e := xbeq e
        subst e
        obtain ⟨hin, h⟩ := h1
        have hlt : i.toNatClampNeg < xs.length := Nat.not_le.mp fun z => hin (Or.inr z)
        have h0 : ¬ i < 0 := fun z => hin (Or.inl z)
        obtain ⟨j, hj, rfl⟩ := nI_of h0
        have hj2 : (nI j).toNatClampNeg = j := nI_clamp hj
        rw [hj2] at hlt
        obtain ⟨a, ha, h⟩ := xaa_spec h j hlt (by rw [Nat.zero_add]; rfl)
        obtain ⟨t0, Cn, ht0, -⟩ := x_tyq (E := E) ht
        intro nw H locs la hbb hlen hP hD hS hl
        refine va_aldq C.1 C.2.1 C.2.2.2.2.2.1 hP q t0 (xG_get (E := E) hlen hcl) ht0 hin hd ?_
        have e2 : va_rf (xqv (as0 ++ nw) xs (nI j).toNatClampNeg) = xcv E (as0 ++ nw) (.ref a) := by
          rw [hj2]
          unfold xqv
          rw [List.getD_eq_getElem?_getD, ha]
          rfl
        rw [e2]
        exact k none _ _ _ _ h nw H locs la hbb hlen hP hD hS hl
      · exact h1.elim
    · exact h1.elim
  · exact h.elim
theorem ok_aast (pc : Nat) {t ci j : Nat} (ht : t = 0 ∨ t = 1) {r : vw_C} (hc : vwCl[ci]? = some r) (hr : r.1 = (xQn t)) (hj : j < 2 ^ 31) : xOk E R own cc nL rt init (pc, .aastore, 1, xs_aast t ci j) := by
  intro hd p l en s m args below meth c Q A as0 K C hR ls st w b go h k
  unfold xs_aast at h
  dsimp only at h
  split at h
  · next v i q st' =>
    obtain ⟨rfl, h0⟩ := h
    obtain ⟨cv, hcv, h1⟩ := xrd_spec h0
    clear h0
    split at h1
    · next cj fs =>
      split at h1
      · next e =>
        have e := xbeq e
        subst e
        obtain ⟨cl, hcl, h2⟩ := xrd_spec h1
        clear h1
        split at h2
        · next t' xs =>
          split at h2
          · next e =>
            have e := xbeq e
            subst e
            obtain ⟨hjl, h3⟩ := xqs_spec h2
            obtain ⟨hq, h⟩ := xwr_spec h3
            obtain ⟨t0, Cn, ht0, hCn⟩ := x_tyq (E := E) ht
            have hj2 : (nI j).toNatClampNeg = j := nI_clamp hj
            intro nw H locs la hbb hlen hP hD hS hl
            refine va_astq C.1 C.2.1 C.2.2.2.2.2.1 hP hD hS q t0 v cj (xG_get (E := E) hlen hcl) (by rw [ht0, hCn, hr]) (xG_get (E := E) hlen hcv) hc (i := nI j) (fun z => z.elim (fun z => nI_pos hj z) (fun z => absurd hjl (by rw [hj2] at z; omega))) hd (fun H1 locs1 hP hD hS => ?_)
            have e1 : va_up (xqv (as0 ++ nw) xs) (nI j).toNatClampNeg (some ((as0 ++ nw).getD v 0)) = xqv (as0 ++ nw) (xs.set j (some v)) := by
              rw [hj2]
              funext x
              unfold va_up xqv
              by_cases hx : x = j
              · subst hx
                have e5 : (xs.set x (some v)).getD x none = some v := by rw [List.getD_eq_getElem?_getD, List.getElem?_set_self hjl]; rfl
                rw [if_pos rfl, e5]
                rfl
              · have e5 : (xs.set j (some v)).getD x none = xs.getD x none := by rw [List.getD_eq_getElem?_getD, List.getD_eq_getElem?_getD, List.getElem?_set_ne (Ne.symm hx)]
                rw [if_neg hx, e5]
            have e := xG_set (E := E) (c := .inr (.inl (t', xs.set j (some v)))) hlen hq
            have e3 : xce E (as0 ++ nw) (.inr (.inl (t', xs.set j (some v)))) = .inl (xct E t', xs.length, .inr (.inr (.inr (.inr (va_up (xqv (as0 ++ nw) xs) (nI j).toNatClampNeg (some ((as0 ++ nw).getD v 0))))))) := by
              rw [e1]
              show Sum.inl (_, (xs.set j (some v)).length, _) = _
              rw [List.length_set]
            rw [e3] at e
            exact k none _ _ _ _ h nw H1 locs1 la hbb (by rw [x_wlen]; exact hlen) (by rw [← e]; exact hP) (by rw [← e]; exact hD) hS hl
          · exact h2.elim
        · exact h2.elim
      · exact h1.elim
    · exact h1.elim
  · exact h.elim
end OK2
end
section
/-! ===== making cells; the ends of methods; arraycopy ===== -/
theorem x_beqT {a b : Nat} (h : Nat.ble a b = true) : a ≤ b := Nat.le_of_ble_eq_true h
theorem xok_spec {ls : xL} {st : List Value} {w : xW} (h : xok ls st w = true) : xokL w.length ls = true ∧ xokF w.length st = true ∧ xokW w.length w = true := by
  unfold xok at h
  rw [Bool.and_eq_true, Bool.and_eq_true] at h
  exact h
theorem x_gst {E : xE} {as : List Nat} {q : Nat} {st : List Value} {w : xW} (hlen : as.length = w.length) (e2 : xokF w.length st = true) : Value.ref q :: st.map (xcv E as) = (Value.ref w.length :: st).map (xcv E (as ++ [q])) := by
  rw [List.map_cons, xcvF_app (Nat.le_of_eq hlen.symm) e2]
  have e : xcv E (as ++ [q]) (Value.ref w.length) = Value.ref q := by
    show Value.ref _ = Value.ref _
    rw [List.getD_eq_getElem?_getD, ← hlen, List.getElem?_append_right (Nat.le_refl _), Nat.sub_self]
    rfl
  rw [e]
theorem x_gln {as : List Nat} {q : Nat} {w : xW} {c : xC} (hlen : as.length = w.length) : (as ++ [q]).length = (w ++ [c]).length := by
  rw [List.length_append, List.length_append, hlen]
  rfl
section OK3
variable {E : xE} {R : Room} {own : String} {cc : ByteArray} {nL : Nat} {rt : Option FieldType} {init : Bool}
theorem ok_new (pc : Nat) {mc ms ci index N : Nat} {fs : List Value} {Cn : String} {T : u_T} {ty0 : Nat → FieldType} (hc : vwCl[ci]? = some (Cn, T, N)) (hin : ∀ w ∈ u_ws Cn T N, w ∈ xT) (hty : ∀ k, k < N → parseFieldDescriptor (T k).2.2.1 = some (ty0 k)) (hcl : Cond.classLink own index Cn ∈ xT) (hinst : Cond.instantiable Cn N ∈ xT) (hini : Cond.initialized Cn ∈ xT) (hfs : ∀ j, j < N → defaultValue (ty0 j) = vp_V fs j) (hfm : ∀ as, fs.map (xcv E as) = fs) (hR : mc ≤ R.cells ∧ ms ≤ R.slots) : xOk E R own cc nL rt init (pc, .new index, 3, xs_new mc ms ci N fs) := by
  intro hd p l en s m args below meth c Q A as0 K C hR' ls st w b go h k
  unfold xs_new at h
  dsimp only at h
  split at h
  · next e =>
    obtain ⟨e1, e2, e3⟩ := xok_spec e
    obtain ⟨hb1, hb2, h⟩ := xbud_one h
    have h := xpush_spec h
    intro nw H locs la hbb hlen hP hD hS hl
    refine va_new C.1 C.2.1 C.2.2.2.2.1 hin ty0 hty C.2.2.2.1 (C.2.2.2.2.1 _ hcl) (C.2.2.2.2.1 _ hinst) (C.2.2.2.2.1 _ hini) C.2.2.2.2.2.1 hP hD hS C.2.2.2.2.2.2.2.1 hc (fs := fs) hfs (by omega) (by omega) hd (fun q H1 hP hD hS => ?_)
    have e4 : (as0 ++ (nw ++ [q])) = (as0 ++ nw) ++ [q] := (List.append_assoc _ _ _).symm
    have e5 := xG_push (E := E) (a := q) (c := .inr (.inr (ci, fs))) hlen e3
    have e6 : xce E ((as0 ++ nw) ++ [q]) (.inr (.inr (ci, fs))) = .inr (ci, fs) := congrArg (fun z : List Value => (Sum.inr (ci, z) : va_E)) (hfm _)
    rw [e6, ← e4] at e5
    have e7 : Value.ref q :: st.map (xcv E (as0 ++ nw)) = (Value.ref w.length :: st).map (xcv E (as0 ++ (nw ++ [q]))) := by
      rw [e4]; exact x_gst hlen e2
    rw [e7]
    refine k none _ _ _ _ h (nw ++ [q]) H1 locs la ⟨Nat.le_trans hb1 hR.1, Nat.le_trans hb2 hR.2⟩ ?_ (by rw [e5]; exact hP) (by rw [e5]; exact hD) hS ?_
    · rw [e4]; exact x_gln hlen
    · rw [e4, xlv_app (Nat.le_of_eq hlen.symm) e1]; exact hl
  · exact h.elim
theorem x_tys_I {E : xE} {s : State} {cA : ClassId} (hK : va_K E.1 vwCl (xtys E ++ [(cA, FieldType.int)]) s) : cA = E.2.1.1 := by
  have h1 := (hK.2 3 (cA, .int) rfl).2
  have h2 := (hK.2 0 (E.2.1.1, .int) rfl).2
  exact Option.some.inj (h1.symm.trans h2)
theorem ok_newa (pc : Nat) {mc ms N : Nat} (hac : Cond.arrayClass .int ∈ xT) (hN : N < 2 ^ 31) (hb8 : N * 4 ≤ 536870912) (hR : mc ≤ R.cells ∧ ms ≤ R.slots) : xOk E R own cc nL rt init (pc, .newarray .int, 2, xs_newa mc ms N) := by
  intro hd p l en s m args below meth c Q A as0 K C hR' ls st w b go h k
  unfold xs_newa at h
  dsimp only at h
  split at h
  · next i st' =>
    obtain ⟨rfl, h⟩ := h
    split at h
    · next e =>
      obtain ⟨e1, e2, e3⟩ := xok_spec e
      obtain ⟨hb1, hb2, h⟩ := xbud_one h
      have h := xpush_spec h
      intro nw H locs la hbb hlen hP hD hS hl
      refine va_newa (atype := .int) C.1 C.2.1 (C.2.2.2.2.1 _ hac) rfl C.2.2.2.2.2.1 hP hD hS C.2.2.2.2.2.2.2.1 (N' := N) (a0 := (N, .inl fun _ => 0)) (fun _ => rfl) (nI_pos hN) (nI_clamp hN) hb8 (by omega) (by omega) hd (fun q cA H1 hK hP hD hS => ?_)
      have hcA := x_tys_I hK
      subst hcA
      have e4 : (as0 ++ (nw ++ [q])) = (as0 ++ nw) ++ [q] := (List.append_assoc _ _ _).symm
      have e5 := xG_push (E := E) (a := q) (c := .inl (N, fun _ => 0)) hlen e3
      rw [← e4] at e5
      have e7 : Value.ref q :: st'.map (xcv E (as0 ++ nw)) = (Value.ref w.length :: st').map (xcv E (as0 ++ (nw ++ [q]))) := by
        rw [e4]; exact x_gst hlen e2
      rw [e7]
      refine k none _ _ _ _ h (nw ++ [q]) H1 locs la ⟨Nat.le_trans hb1 hR.1, Nat.le_trans hb2 hR.2⟩ ?_ (by rw [e5]; exact hP) (by rw [e5]; exact hD) hS ?_
      · rw [e4]; exact x_gln hlen
      · rw [e4, xlv_app (Nat.le_of_eq hlen.symm) e1]; exact hl
    · exact h.elim
  · exact h.elim
theorem x_tys_Q {E : xE} {s : State} {t : Nat} (ht : t = 0 ∨ t = 1) {cA : ClassId} (hK : va_K E.1 vwCl (xtys E ++ [(cA, FieldType.object (xQn t))]) s) : cA = xct E t := by
  rcases ht with rfl | rfl
  · obtain ⟨k1, c1, -, -, -, h1⟩ := (hK.2 3 (cA, _) rfl).2
    obtain ⟨k2, c2, -, -, -, h2⟩ := (hK.2 1 (E.2.1.2.1, _) rfl).2
    exact Option.some.inj (h1.symm.trans h2)
  · obtain ⟨k1, c1, -, -, -, h1⟩ := (hK.2 3 (cA, _) rfl).2
    obtain ⟨k2, c2, -, -, -, h2⟩ := (hK.2 2 (E.2.1.2.2, _) rfl).2
    exact Option.some.inj (h1.symm.trans h2)
theorem xqv_none (as : List Nat) (N : Nat) : xqv as (List.replicate N none) = fun _ => none := by
  funext j
  unfold xqv
  rw [List.getD_eq_getElem?_getD, List.getElem?_replicate]
  split <;> rfl
theorem ok_newq (pc : Nat) {mc ms t index N : Nat} (ht : t = 0 ∨ t = 1) (hcl : Cond.classLink own index (xQn t) ∈ xT) (hN : N < 2 ^ 31) (hb8 : N * 4 ≤ 536870912) (hR : mc ≤ R.cells ∧ ms ≤ R.slots) : xOk E R own cc nL rt init (pc, .anewarray index, 3, xs_newq mc ms t N) := by
  intro hd p l en s m args below meth c Q A as0 K C hR' ls st w b go h k
  unfold xs_newq at h
  dsimp only at h
  split at h
  · next i st' =>
    obtain ⟨rfl, h⟩ := h
    split at h
    · next e =>
      obtain ⟨e1, e2, e3⟩ := xok_spec e
      obtain ⟨hb1, hb2, h⟩ := xbud_one h
      have h := xpush_spec h
      have hAO : va_AO (xQn t) s := by
        rcases ht with rfl | rfl
        · exact C.2.2.2.2.2.2.1.2.2.2.2.2.1
        · exact C.2.2.2.2.2.2.1.2.2.2.2.2.2
      intro nw H locs la hbb hlen hP hD hS hl
      refine va_newq C.1 C.2.1 C.2.2.2.1 (C.2.2.2.2.1 _ hcl) hAO C.2.2.2.2.2.1 hP hD hS C.2.2.2.2.2.2.2.1 (N' := N) (nI_pos hN) (nI_clamp hN) hb8 (by omega) (by omega) hd (fun q cA H1 hK hP hD hS => ?_)
      have hcA := x_tys_Q ht hK
      subst hcA
      have e4 : (as0 ++ (nw ++ [q])) = (as0 ++ nw) ++ [q] := (List.append_assoc _ _ _).symm
      have e5 := xG_push (E := E) (a := q) (c := .inr (.inl (t, List.replicate N none))) hlen e3
      have e6 : xce E ((as0 ++ nw) ++ [q]) (.inr (.inl (t, List.replicate N none))) = .inl (xct E t, N, .inr (.inr (.inr (.inr (fun _ => none))))) := by
        show Sum.inl (_, (List.replicate N (none : Option Nat)).length, Sum.inr (Sum.inr (Sum.inr (Sum.inr (xqv _ (List.replicate N none)))))) = _
        rw [xqv_none, List.length_replicate]
      rw [e6, ← e4] at e5
      have e7 : Value.ref q :: st'.map (xcv E (as0 ++ nw)) = (Value.ref w.length :: st').map (xcv E (as0 ++ (nw ++ [q]))) := by
        rw [e4]; exact x_gst hlen e2
      rw [e7]
      refine k none _ _ _ _ h (nw ++ [q]) H1 locs la ⟨Nat.le_trans hb1 hR.1, Nat.le_trans hb2 hR.2⟩ ?_ (by rw [e5]; exact hP) (by rw [e5]; exact hD) hS ?_
      · rw [e4]; exact x_gln hlen
      · rw [e4, xlv_app (Nat.le_of_eq hlen.symm) e1]; exact hl
    · exact h.elim
  · exact h.elim
theorem x_sum {E : xE} {as : List Nat} (st : List Value) : ((st.map (xcv E as)).map fun v => v.category) = st.map fun v => v.category := by
  rw [List.map_map]
  exact List.map_congr_left fun v _ => xcv_cat E as v
theorem ok_obj (pc : Nat) {index : Nat} (hlink : Cond.methodLink own index Lib.objectInit ∈ xT) (hinst : Cond.instanceMethod Lib.objectInit ∈ xT) (hcode : Cond.code Lib.objectInit ⟨#[0xb1]⟩ 1 none ∈ xT) (hR : 1 ≤ R.frames ∧ 20 ≤ R.locals) : xOk E R own cc nL rt init (pc, .invokespecial index, 3, xs_obj) := by
  intro hd p l en s m args below meth c Q A as0 K C hR' ls st w b go h k
  unfold xs_obj at h
  dsimp only at h
  split at h
  · next q st' =>
    split at h
    · next e =>
      have e := x_beqT e
      intro nw H locs la hbb hlen hP hD hS hl
      refine W.objInit C.1 C.2.1 C.2.2.2.1 (C.2.2.2.2.1 _ hlink) (C.2.2.2.2.1 _ hinst) (C.2.2.2.2.1 _ hcode) rfl (by rw [C.2.2.1]; exact hl.1) rfl hd hR.1 ?_ ?_
      · show 2 * 0 + ((List.map (xcv E (as0 ++ nw)) st').map fun v => v.category).sum + 12 ≤ R.locals
        rw [x_sum]
        omega
      · exact k none _ _ _ _ h nw H locs la hbb hlen hP hD hS hl
    · exact h.elim
  · exact h.elim
theorem ok_acopy (pc : Nat) {index : Nat} (hlink : Cond.methodLink own index arraycopyName ∈ xT) (hnat : Cond.native arraycopyName ∈ xT) (hstat : Cond.static arraycopyName ∈ xT) (hini : Cond.initialized "java/lang/System" ∈ xT) (hR : 1 ≤ R.frames ∧ 8 + (nativeFrameWords "java/lang/System" "arraycopy" 5 + 11) ≤ R.locals) : xOk E R own cc nL rt init (pc, .invokestatic index, 3, xs_acopy) := by
  intro hd p l en s m args below meth c Q A as0 K C hR' ls st w b go h k
  unfold xs_acopy at h
  dsimp only at h
  split at h
  · next n dp q1 sp q0 st' =>
    split at h
    · next e =>
      have e := x_beqT e
      obtain ⟨c0, hc0, h1⟩ := xrd_spec h
      clear h
      split at h1
      · next n0 f =>
        obtain ⟨c1, hc1, h2⟩ := xrd_spec h1
        clear h1
        split at h2
        · next n1 g =>
          obtain ⟨⟨z1, z2, z3, z4, z5⟩, h3⟩ := h2
          obtain ⟨hq, h⟩ := xwr_spec h3
          intro nw H locs la hbb hlen hP hD hS hl
          refine va_copyi C.1 C.2.1 (by rw [C.2.2.1]; exact hl.1.symm) C.2.2.2.1 (C.2.2.2.2.1 _ hlink) (C.2.2.2.2.1 _ hnat) (C.2.2.2.2.1 _ hstat) (C.2.2.2.2.1 _ hini) C.2.2.2.2.2.1 hP hD hS q0 q1 0 0 (ty := .int) (xG_get (E := E) hlen hc0) (xG_get (E := E) hlen hc1) rfl rfl rfl z1 z2 z3 z4 z5 (fun _ _ => rfl) hR.1 ?_ hd (fun H1 locs1 hP hD hS => ?_)
          · rw [x_sum]; omega
          · have e := xG_set (E := E) (c := .inl (n1, va_cpy f g sp.toNatClampNeg dp.toNatClampNeg n.toNatClampNeg)) hlen hq
            exact k none _ _ _ _ h nw H1 locs1 la hbb (by rw [x_wlen]; exact hlen) (by rw [← e]; exact hP) (by rw [← e]; exact hD) hS hl
        · exact h2.elim
      · exact h1.elim
    · exact h.elim
  · exact h.elim
theorem ok_iret (pc : Nat) {z : Bool} (hz : rt = some (match z with | true => .boolean | false => .int)) : xOk E R own cc nL rt init (pc, .ireturn, 1, xs_iret z) := by
  intro hd p l en s m args below meth c Q A as0 K C hR ls st w b go h k
  unfold xs_iret at h
  dsimp only at h
  split at h
  · next v =>
    split at h
    · exact (hR pc ls w b).1 v .boolean hd hz (by rcases h.1 with rfl | rfl <;> rfl) h.2
    · exact (hR pc ls w b).1 v .int hd hz rfl h
  · exact h.elim
theorem ok_aret (pc : Nat) (hz : rt = some (.array .int)) : xOk E R own cc nL rt init (pc, .areturn, 1, xs_aret) := by
  intro hd p l en s m args below meth c Q A as0 K C hR ls st w b go h k
  unfold xs_aret at h
  dsimp only at h
  split at h
  · next v => exact (hR pc ls w b).2.1 v hd hz h
  · exact h.elim
theorem ok_ret (pc : Nat) (hz : rt = none) : xOk E R own cc nL rt init (pc, .return_, 1, xs_ret) := by
  intro hd p l en s m args below meth c Q A as0 K C hR ls st w b go h k
  unfold xs_ret at h
  dsimp only at h
  split at h
  · exact (hR pc ls w b).2.2 hd hz h
  · exact h.elim
end OK3
end
section
/-! ===== renaming: a callee's world is a part of its caller's ===== -/
def xpm (as pi : List Nat) : List Nat := pi.map (fun i => as.getD i 0)
theorem xpm_get {as pi : List Nat} {j q : Nat} (h : pi[j]? = some q) : (xpm as pi).getD j 0 = as.getD q 0 := by
  unfold xpm
  rw [List.getD_eq_getElem?_getD, List.getElem?_map, h]
  rfl
theorem xix_spec {q : Nat} : ∀ {pi : List Nat} {k : Nat → Prop}, xix pi q k → ∃ j, pi[j]? = some q ∧ k j
  | [], k, h => h.elim
  | a :: r, k, h => by
    unfold xix at h
    split at h
    · next e => exact ⟨0, by rw [xbeq e]; rfl, h⟩
    · obtain ⟨j, h1, h2⟩ := xix_spec h
      exact ⟨j + 1, by rw [List.getElem?_cons_succ]; exact h1, h2⟩
theorem xdnV_spec {pi : List Nat} {v : Value} {k : Value → Prop} (h : xdnV pi v k) : ∃ v', k v' ∧ (∀ (E : xE) (as : List Nat), xcv E (xpm as pi) v' = xcv E as v) ∧ ∀ q, v = .ref q → ∃ j, v' = .ref j ∧ pi[j]? = some q := by
  unfold xdnV at h
  split at h
  · exact ⟨_, h, fun _ _ => rfl, fun q e => by cases e⟩
  · exact ⟨_, h, fun _ _ => rfl, fun q e => by cases e⟩
  · obtain ⟨j, h1, h2⟩ := xix_spec h
    refine ⟨_, h2, fun E as => ?_, fun q e => ?_⟩
    · show Value.ref _ = Value.ref _
      rw [xpm_get h1]
    · cases e
      exact ⟨j, rfl, h1⟩
  · exact ⟨_, h, fun _ _ => rfl, fun q e => by cases e⟩
  · exact h.elim
theorem xdnF_spec {pi : List Nat} : ∀ {fs : List Value} {k : List Value → Prop}, xdnF pi fs k → ∃ fs', k fs' ∧ fs'.length = fs.length ∧ (∀ (E : xE) (as : List Nat), fs'.map (xcv E (xpm as pi)) = fs.map (xcv E as)) ∧ ∀ q r, fs = .ref q :: r → ∃ j r', fs' = .ref j :: r' ∧ pi[j]? = some q
  | [], k, h => ⟨[], h, rfl, fun _ _ => rfl, fun q r e => by cases e⟩
  | v :: r, k, h => by
    obtain ⟨v', h1, h2, h3⟩ := xdnV_spec h
    obtain ⟨r', h4, h5, h6, -⟩ := xdnF_spec h1
    refine ⟨_, h4, by simp [h5], fun E as => by rw [List.map_cons, List.map_cons, h2, h6], fun q r2 e => ?_⟩
    simp only [List.cons.injEq] at e
    obtain ⟨j, hj, hp⟩ := h3 q e.1
    exact ⟨j, r', by rw [hj], hp⟩
theorem xdnQ_spec {pi : List Nat} : ∀ {xs : List (Option Nat)} {k : List (Option Nat) → Prop}, xdnQ pi xs k → ∃ xs', k xs' ∧ xs'.length = xs.length ∧ ∀ (as : List Nat) (j : Nat), (xs'.getD j none).map (fun q => (xpm as pi).getD q 0) = (xs.getD j none).map (fun q => as.getD q 0)
  | [], k, h => ⟨[], h, rfl, fun _ _ => rfl⟩
  | none :: r, k, h => by
    obtain ⟨r', h1, h2, h3⟩ := xdnQ_spec (xs := r) h
    refine ⟨_, h1, by simp [h2], fun as j => ?_⟩
    cases j with
    | zero => rfl
    | succ j => simpa using h3 as j
  | some q :: r, k, h => by
    obtain ⟨a, ha, h⟩ := xix_spec (pi := pi) h
    obtain ⟨r', h1, h2, h3⟩ := xdnQ_spec (xs := r) h
    refine ⟨_, h1, by simp [h2], fun as j => ?_⟩
    cases j with
    | zero =>
      show some ((xpm as pi).getD a 0) = some (as.getD q 0)
      rw [xpm_get ha]
    | succ j => simpa using h3 as j
theorem xdnC_spec {pi : List Nat} {c : xC} {k : xC → Prop} (h : xdnC pi c k) : ∃ c', k c' ∧ ∀ (E : xE) (as : List Nat), xce E (xpm as pi) c' = xce E as c := by
  unfold xdnC at h
  split at h
  · exact ⟨_, h, fun _ _ => rfl⟩
  · next t xs =>
    obtain ⟨xs', h1, h2, h3⟩ := xdnQ_spec h
    refine ⟨_, h1, fun E as => ?_⟩
    have e : xqv (xpm as pi) xs' = xqv as xs := funext fun j => h3 as j
    show Sum.inl (xct E t, xs'.length, Sum.inr (Sum.inr (Sum.inr (Sum.inr (xqv (xpm as pi) xs'))))) = _
    rw [e, h2]
    rfl
  · next ci fs =>
    obtain ⟨fs', h1, h2, h3, -⟩ := xdnF_spec h
    exact ⟨_, h1, fun E as => congrArg (fun z : List Value => (Sum.inr (ci, z) : va_E)) (h3 E as)⟩
theorem xga_spec {pi : List Nat} {w : xW} : ∀ {is : List Nat} {k : xW → Prop}, xga pi w is k → ∃ lw : xW, k lw ∧ lw.length = is.length ∧ ∀ (j i : Nat), is[j]? = some i → ∃ c c' : xC, w[i]? = some c ∧ lw[j]? = some c' ∧ ∀ (E : xE) (as : List Nat), xce E (xpm as pi) c' = xce E as c
  | [], k, h => ⟨[], h, rfl, fun j i e => by simp at e⟩
  | i :: r, k, h => by
    obtain ⟨c, hc, h1⟩ := xrd_spec h
    obtain ⟨c', h2, h3⟩ := xdnC_spec h1
    obtain ⟨lw, h4, h5, h6⟩ := xga_spec h2
    refine ⟨_, h4, by simp [h5], fun j i' e => ?_⟩
    cases j with
    | zero =>
      simp only [List.getElem?_cons_zero, Option.some.injEq] at e
      subst e
      exact ⟨c, c', hc, rfl, h3⟩
    | succ j =>
      rw [List.getElem?_cons_succ] at e
      obtain ⟨d, d', g1, g2, g3⟩ := h6 j i' e
      exact ⟨d, d', g1, by rw [List.getElem?_cons_succ]; exact g2, g3⟩
theorem xupI_spec {n : Nat} : ∀ {pi : List Nat} {j : Nat} {k : Nat → Prop}, xupI n pi j k → ∃ i, k i ∧ ∀ (as nw : List Nat), as.length = n → (∀ a ∈ pi, a < n) → (as ++ nw).getD i 0 = (xpm as pi ++ nw).getD j 0
  | [], j, k, h => ⟨n + j, h, fun as nw hn _ => by
      rw [List.getD_eq_getElem?_getD, List.getElem?_append_right (by omega), show n + j - as.length = j by omega]
      show _ = ([] ++ nw).getD j 0
      rw [List.nil_append, List.getD_eq_getElem?_getD]⟩
  | a :: r, 0, k, h => ⟨a, h, fun as nw hn ha => by
      rw [x_gd (by rw [hn]; exact ha a List.mem_cons_self)]
      rfl⟩
  | a :: r, j + 1, k, h => by
    obtain ⟨i, h1, h2⟩ := xupI_spec (pi := r) (j := j) h
    exact ⟨i, h1, fun as nw hn ha => by
      rw [h2 as nw hn fun x hx => ha x (List.mem_cons_of_mem _ hx)]
      rfl⟩
theorem xupV_spec {n : Nat} {pi : List Nat} {v : Value} {k : Value → Prop} (h : xupV n pi v k) : ∃ v', k v' ∧ ∀ (E : xE) (as nw : List Nat), as.length = n → (∀ a ∈ pi, a < n) → xcv E (as ++ nw) v' = xcv E (xpm as pi ++ nw) v := by
  unfold xupV at h
  split at h
  · exact ⟨_, h, fun _ _ _ _ _ => rfl⟩
  · exact ⟨_, h, fun _ _ _ _ _ => rfl⟩
  · obtain ⟨i, h1, h2⟩ := xupI_spec h
    exact ⟨_, h1, fun E as nw hn ha => congrArg Value.ref (h2 as nw hn ha)⟩
  · exact ⟨_, h, fun _ _ _ _ _ => rfl⟩
  · exact h.elim
theorem xupF_spec {n : Nat} {pi : List Nat} : ∀ {fs : List Value} {k : List Value → Prop}, xupF n pi fs k → ∃ fs', k fs' ∧ ∀ (E : xE) (as nw : List Nat), as.length = n → (∀ a ∈ pi, a < n) → fs'.map (xcv E (as ++ nw)) = fs.map (xcv E (xpm as pi ++ nw))
  | [], k, h => ⟨[], h, fun _ _ _ _ _ => rfl⟩
  | v :: r, k, h => by
    obtain ⟨v', h1, h2⟩ := xupV_spec h
    obtain ⟨r', h3, h4⟩ := xupF_spec h1
    exact ⟨_, h3, fun E as nw hn ha => by rw [List.map_cons, List.map_cons, h2 E as nw hn ha, h4 E as nw hn ha]⟩
theorem xupQ_spec {n : Nat} {pi : List Nat} : ∀ {xs : List (Option Nat)} {k : List (Option Nat) → Prop}, xupQ n pi xs k → ∃ xs', k xs' ∧ xs'.length = xs.length ∧ ∀ (as nw : List Nat) (j : Nat), as.length = n → (∀ a ∈ pi, a < n) → (xs'.getD j none).map (fun q => (as ++ nw).getD q 0) = (xs.getD j none).map (fun q => (xpm as pi ++ nw).getD q 0)
  | [], k, h => ⟨[], h, rfl, fun _ _ _ _ _ => rfl⟩
  | none :: r, k, h => by
    obtain ⟨r', h1, h2, h3⟩ := xupQ_spec (xs := r) h
    refine ⟨_, h1, by simp [h2], fun as nw j hn ha => ?_⟩
    cases j with
    | zero => rfl
    | succ j => simpa using h3 as nw j hn ha
  | some q :: r, k, h => by
    obtain ⟨i, h, hi⟩ := xupI_spec (pi := pi) h
    obtain ⟨r', h1, h2, h3⟩ := xupQ_spec (xs := r) h
    refine ⟨_, h1, by simp [h2], fun as nw j hn ha => ?_⟩
    cases j with
    | zero =>
      show some ((as ++ nw).getD i 0) = some ((xpm as pi ++ nw).getD q 0)
      rw [hi as nw hn ha]
    | succ j => simpa using h3 as nw j hn ha
/-- a cell of the callee's, as its caller has it -/
def xUp (n : Nat) (pi : List Nat) (c c' : xC) : Prop := ∀ (E : xE) (as nw : List Nat), as.length = n → (∀ a ∈ pi, a < n) → xce E (as ++ nw) c' = xce E (xpm as pi ++ nw) c
theorem xupC_spec {n : Nat} {pi : List Nat} {c : xC} {k : xC → Prop} (h : xupC n pi c k) : ∃ c', k c' ∧ xUp n pi c c' := by
  unfold xupC at h
  split at h
  · exact ⟨_, h, fun _ _ _ _ _ => rfl⟩
  · next t xs =>
    obtain ⟨xs', h1, h2, h3⟩ := xupQ_spec h
    refine ⟨_, h1, fun E as nw hn ha => ?_⟩
    have e : xqv (as ++ nw) xs' = xqv (xpm as pi ++ nw) xs := funext fun j => h3 as nw j hn ha
    show Sum.inl (xct E t, xs'.length, Sum.inr (Sum.inr (Sum.inr (Sum.inr (xqv (as ++ nw) xs'))))) = _
    rw [e, h2]
    rfl
  · next ci fs =>
    obtain ⟨fs', h1, h2⟩ := xupF_spec h
    exact ⟨_, h1, fun E as nw hn ha => congrArg (fun z : List Value => (Sum.inr (ci, z) : va_E)) (h2 E as nw hn ha)⟩
theorem xupL_spec {n : Nat} {pi : List Nat} : ∀ {r : xW} {k : xW → Prop}, xupL n pi r k → ∃ r' : xW, k r' ∧ r'.length = r.length ∧ ∀ (j : Nat) (c : xC), r[j]? = some c → ∃ c' : xC, r'[j]? = some c' ∧ xUp n pi c c'
  | [], k, h => ⟨[], h, rfl, fun j c e => by simp at e⟩
  | c :: r, k, h => by
    obtain ⟨c', h1, h2⟩ := xupC_spec h
    obtain ⟨r', h3, h4, h5⟩ := xupL_spec h1
    refine ⟨_, h3, by simp [h4], fun j d e => ?_⟩
    cases j with
    | zero =>
      simp only [List.getElem?_cons_zero, Option.some.injEq] at e
      subst e
      exact ⟨c', rfl, h2⟩
    | succ j =>
      rw [List.getElem?_cons_succ] at e ⊢
      exact h5 j d e
theorem xapp_spec {w2 : xW} : ∀ {w : xW} {k : xW → Prop}, xapp w w2 k → k (w ++ w2)
  | [], k, h => h
  | c :: w, k, h => xapp_spec (w := w) h
theorem xsc_spec {g : Bool} {n : Nat} {pi : List Nat} : ∀ {is : List Nat} {lw w : xW} {k : xW → Prop}, xsc g n pi is lw w k → is.Nodup → ∃ w2 ex : xW, k (w2 ++ ex) ∧ w2.length = w.length ∧ lw.length = is.length + ex.length ∧ (g = false → ex = []) ∧ (∀ (j i : Nat) (c : xC), is[j]? = some i → lw[j]? = some c → ∃ c' : xC, w2[i]? = some c' ∧ xUp n pi c c') ∧ (∀ i : Nat, i ∉ is → w2[i]? = w[i]?) ∧ ∀ (j : Nat) (c : xC), lw[is.length + j]? = some c → ∃ c' : xC, ex[j]? = some c' ∧ xUp n pi c c'
  | [], [], w, k, h, _ => ⟨w, [], by rw [List.append_nil]; exact h, rfl, rfl, fun _ => rfl, fun j i c e => by simp at e, fun _ _ => rfl, fun j c e => by simp at e⟩
  | [], c :: r, w, k, h, _ => by
    unfold xsc at h
    split at h
    · obtain ⟨r', h1, h2, h3⟩ := xupL_spec h
      refine ⟨w, r', xapp_spec h1, rfl, by rw [h2]; simp, fun z => by (cases z), fun j i c e => by simp at e, fun _ _ => rfl, fun j c e => ?_⟩
      rw [List.length_nil, Nat.zero_add] at e
      exact h3 j c e
    · exact h.elim
  | i :: is, [], w, k, h, _ => by unfold xsc at h; exact h.elim
  | i :: is, c :: r, w, k, h, hn => by
    unfold xsc at h
    obtain ⟨c', h1, h2⟩ := xupC_spec h
    obtain ⟨hi, h3⟩ := xwr_spec h1
    have hn := List.nodup_cons.mp hn
    obtain ⟨w2, ex, g1, g2, g3, g4, g5, g6, g7⟩ := xsc_spec h3 hn.2
    refine ⟨w2, ex, g1, by rw [g2, List.length_set], by simp only [List.length_cons, g3]; omega, g4, fun j i' d e1 e2 => ?_, fun i' hi' => ?_, fun j d e => ?_⟩
    · cases j with
      | zero =>
        simp only [List.getElem?_cons_zero, Option.some.injEq] at e1 e2
        subst e1
        subst e2
        exact ⟨c', by rw [g6 _ hn.1, List.getElem?_set_self hi], h2⟩
      | succ j =>
        rw [List.getElem?_cons_succ] at e1 e2
        exact g5 j i' d e1 e2
    · rw [g6 i' (fun z => hi' (List.mem_cons_of_mem _ z)), List.getElem?_set_ne (fun z => hi' (by rw [z]; exact List.mem_cons_self))]
    · rw [List.length_cons, show is.length + 1 + j = (is.length + j) + 1 by omega, List.getElem?_cons_succ] at e
      exact g7 j d e
theorem xrange_spec {L : Nat} {acc : List Nat} : ∀ {n q : Nat} {k : List Nat → Prop}, xrange L acc n q k → ∃ l, k l ∧ l.Nodup ∧ ∀ a ∈ l, a < L ∧ a ∉ acc ∧ q ≤ a
  | 0, q, k, h => ⟨[], h, List.nodup_nil, fun a ha => by cases ha⟩
  | n + 1, q, k, h => by
    unfold xrange at h
    have h := xforce_spec h
    split at h
    · obtain ⟨l, h1, h2, h3⟩ := xrange_spec h
      exact ⟨l, h1, h2, fun a ha => ⟨(h3 a ha).1, (h3 a ha).2.1, Nat.le_of_succ_le (h3 a ha).2.2⟩⟩
    · next e =>
      rw [Bool.or_eq_false_iff] at e
      obtain ⟨l, h1, h2, h3⟩ := xrange_spec h
      refine ⟨_, h1, List.nodup_cons.mpr ⟨fun z => ?_, h2⟩, fun a ha => ?_⟩
      · have := (h3 q z).2.2
        omega
      · rcases List.mem_cons.mp ha with rfl | ha
        · refine ⟨Nat.not_le.mp fun z => ?_, fun z => ?_, Nat.le_refl _⟩
          · have := Nat.ble_eq_true_of_le z
            rw [this] at e
            exact absurd e.1 (by simp)
          · have := e.2
            rw [List.any_eq_false] at this
            exact this a z (by simp)
        · exact ⟨(h3 a ha).1, (h3 a ha).2.1, Nat.le_of_succ_le (h3 a ha).2.2⟩
theorem xnapp_spec {w2 : List Nat} : ∀ {w : List Nat} {k : List Nat → Prop}, xnapp w w2 k → k (w ++ w2)
  | [], k, h => h
  | c :: w, k, h => xnapp_spec (w := w) h
theorem xpi_spec {w : xW} : ∀ {av : List Value} {acc : List Nat} {k : List Nat → Prop}, xpi w av acc k → acc.Nodup → (∀ a ∈ acc, a < w.length) → ∃ pi, k pi ∧ pi.Nodup ∧ ∀ a ∈ pi, a < w.length
  | [], acc, k, h, h1, h2 => ⟨acc, h, h1, h2⟩
  | v :: r, acc, k, h, h1, h2 => by
    unfold xpi at h
    split at h
    · next e => cases e
    · next e =>
      cases e
      obtain ⟨c, hc, h3⟩ := xrd_spec h
      obtain ⟨l, g1, g2, g3⟩ := xrange_spec h3
      refine xpi_spec (xnapp_spec g1) ?_ ?_
      · rw [List.nodup_append]
        exact ⟨h1, g2, fun a ha b hb z => (g3 b hb).2.1 (z ▸ ha)⟩
      · intro a ha
        rcases List.mem_append.mp ha with ha | ha
        · exact h2 a ha
        · exact (g3 a ha).1
    · next e =>
      cases e
      exact xpi_spec h h1 h2
end
section
/-! ===== calls by contract; a method's contract out of its run ===== -/
def xR (d mc ms : Nat) : Room := { frames := d + 1, cells := mc, slots := ms, locals := 60 * (d + 1) }
def xPre (E : xE) (as : List Nat) (w : xW) (sz : Nat) (U : State) : Prop := U.heap.size = sz ∧ as.length = w.length ∧ va_P E.1 vwCl (xG E as w) U.heap ∧ va_K E.1 vwCl (xtys E) U ∧ va_D (fun _ => True) (xG E as w) ∧ xStat E (va_A (xG E as w) sz) U U.heap
def xQ (E : xE) (as : List Nat) (K : xKo) (A : Nat → Prop) : Array Value → State → Outcome → State → Prop := fun _ st oc t =>
  (∃ (r : Option Value) (w' : xW) (nw : List Nat), oc = .returned (r.map (xcv E (as ++ nw))) ∧ K r w' ∧ (as ++ nw).length = w'.length ∧ va_P E.1 vwCl (xG E (as ++ nw) w') t.heap ∧ va_D A (xG E (as ++ nw) w')) ∧ va_F A st t
/-- a method's contract: what its condition says of its answer and its cells comes true -/
def xSnd (y : MethodName) (cc : ByteArray) (maxL : Nat) (rt : Option FieldType) (d mc ms : Nat) (C : xPT) : Prop := ∀ (l : Launch) (E : xE) (as : List Nat) (sz : Nat) (av : List Value) (w : xW) (K : xKo), C av w K →
  Met l y (.code y cc maxL rt :: xT) (xR d mc ms) (va_Pc (av.map (xcv E as)) (xPre E as w sz)) (xQ E as K (va_A (xG E as w) sz)) mc ms (va_A (xG E as w) sz)
theorem xT_good {w : Cond} (h : w ∈ xT) : (w.onTables && w.keeps) = true ∨ ∃ ty, w = .arrayClass ty := good_of_word (List.mem_filter.mp h).2
theorem x_good {ws : List Cond} (h : ∀ w ∈ ws, w ∈ xT) : GoodIn xT ws := fun w hw => ⟨h w hw, xT_good (h w hw)⟩
theorem xStat_kept {E : xE} {A : Nat → Prop} {U : State} {H H1 : Heap} (h : xStat E A U H) (hq : ∀ a : Nat, a < H.size → ¬ A a → H1[a]? = H[a]?) : xStat E A U H1 :=
  ⟨fun q hq' => (h.1 q hq').kept hq, h.2.1.kept hq, h.2.2.1.kept hq, h.2.2.2.1.kept hq, h.2.2.2.2⟩
theorem xStat_narrow {E : xE} {A B : Nat → Prop} {U : State} {H : Heap} (h : xStat E A U H) (hAB : ∀ q, B q → A q) : xStat E B U H :=
  ⟨fun q hq' => (h.1 q hq').narrow hAB, h.2.1.narrow hAB, h.2.2.1.narrow hAB, h.2.2.2.1.narrow hAB, h.2.2.2.2⟩
theorem xNest_warm {s U : State} (hW : s.WarmedH U.vm) (h : ∀ w ∈ xNest, va_Nw w s) : ∀ w ∈ xNest, va_Nw w U := by
  intro w hw
  have h1 := h w hw
  simp only [xNest, List.mem_cons, List.not_mem_nil, or_false] at hw
  rcases hw with rfl | rfl | rfl | rfl | rfl | rfl <;> exact va_Nw.warmM hW h1
theorem xStat_warm {E : xE} {A : Nat → Prop} {s U : State} {H : Heap} (hW : s.WarmedH U.vm) (h : xStat E A s H) : xStat E A U H :=
  ⟨fun q hq' => (h.1 q hq').moved hW.alike, h.2.1.moved hW.alike, h.2.2.1.moved hW.alike, h.2.2.2.1.moved hW.alike, xNest_warm hW h.2.2.2.2.1, h.2.2.2.2.2.1.moved hW.alike, h.2.2.2.2.2.2.moved hW.alike⟩
theorem xNest_same {u U : State} (e : u.vm = U.vm) (h : ∀ w ∈ xNest, va_Nw w u) : ∀ w ∈ xNest, va_Nw w U := by
  intro w hw
  have h1 := h w hw
  simp only [xNest, List.mem_cons, List.not_mem_nil, or_false] at hw
  rcases hw with rfl | rfl | rfl | rfl | rfl | rfl <;> exact va_Nw.same rfl e h1
theorem xStat_same {E : xE} {A : Nat → Prop} {u U : State} {H : Heap} (e : u.vm = U.vm) (h : xStat E A u H) : xStat E A U H := by
  have ha : u.vm.Alike U.vm := by rw [e]; exact Vm.Alike.refl _
  exact ⟨fun q hq' => (h.1 q hq').moved ha, h.2.1.moved ha, h.2.2.1.moved ha, h.2.2.2.1.moved ha, xNest_same e h.2.2.2.2.1, h.2.2.2.2.2.1.moved ha, h.2.2.2.2.2.2.moved ha⟩
theorem x_blind (E : xE) (as : List Nat) (w : xW) (sz : Nat) (av : List Value) : FrameBlind (va_Pc av (xPre E as w sz)) := by
  intro a U g mk h
  obtain ⟨h1, h2, h3, h4, h5, h6, h7⟩ := h
  exact ⟨h1, h2, h3, h4, va_K.moved (u := U) (U := U.calling g mk a) (Vm.Alike.refl U.vm) h5, h6, xStat_same (u := U) (U := U.calling g mk a) rfl h7⟩
theorem x_after {E : xE} {p : Program} {l : Launch} {en : Env} {R : Room} {s : State} {m : MethodId} {args : Array Value} {below : List Frame} {meth : Method} {c : Code} {H : Heap} {locs : List Loc} {k1 k2 mc ms pc : Nat} {Q : State → Prop} {la : Array Slot} {stk rest : List Value} {asc : List Nat} {K1 : xKo} {A A1 free : Nat → Prop} {a : Array Value}
    (hr : va_Run p l en R s m args below meth c H locs k1 k2 mc ms (F0 m pc la stk) rest (xQ E asc K1 A1 a) free) (hS : va_S A s.heap H locs) (hA : ∀ q, A1 q → A q) (hf : ∀ q, free q → A q)
    (kk : ∀ (r : Option Value) (w' : xW) (nw : List Nat) (H1 : Heap) (locs1 : List Loc), K1 r w' → (asc ++ nw).length = w'.length → va_P E.1 vwCl (xG E (asc ++ nw) w') H1 → va_D A1 (xG E (asc ++ nw) w') → H.size ≤ H1.size → (∀ q : Nat, q < H.size → ¬ A1 q → H1[q]? = H[q]?) → va_S A s.heap H1 locs1 → W p l en R s m args below meth c H1 locs1 (k1 + mc) (k2 + ms) Q (F0 m (pc + 3) la ((r.map (xcv E (asc ++ nw))).toList ++ rest))) :
    W p l en R s m args below meth c H locs k1 k2 Q (F0 m pc la stk) := by
  intro T hT X
  obtain ⟨v, st₀, t, T', L, h0, X', hL, e1, e2, ⟨⟨r, w', nw, hv, hk, hln, hp, hd⟩, hz, hkp⟩, st⟩ := hr T hT X
  cases hv
  rw [h0] at hz hkp
  obtain ⟨t2, a1, b1⟩ := kk r w' nw T'.heap (locs ++ L) hk hln (by rw [e1]; exact hp) hd (by rw [e1]; exact hz) (fun q h1 h2 => by rw [e1]; exact hkp q h1 h2)
    ⟨Nat.le_trans hS.1 (by rw [e1]; exact hz), fun q h1 h2 => by rw [e1, hkp q (Nat.lt_of_lt_of_le h1 hS.1) (fun z => h2 (hA q z))]; exact hS.2.1 q h1 h2, fun q hq => by
      rcases List.mem_append.mp hq with h | h
      · exact hS.2.2 q h
      · exact hf _ (hL q h)⟩ T' rfl X'
  exact ⟨t2, st t2 a1, b1⟩
def xrecv (rc : Option Nat) (av : List Value) (w : xW) : Prop := match rc with
  | none => True
  | some ci => ∃ (q : Nat) (vs fs : List Value), av = .ref q :: vs ∧ w[q]? = some (.inr (.inr (ci, fs)))
theorem xrck_spec {rc : Option Nat} {av : List Value} {w : xW} {k : Prop} (h : xrck rc av w k) : xrecv rc av w ∧ k := by
  unfold xrck at h
  split at h
  · exact ⟨trivial, h⟩
  · split at h
    · obtain ⟨c, hc, h1⟩ := xrd_spec h
      clear h
      split at h1
      · split at h1
        · next e =>
          have e := xbeq e
          subst e
          exact ⟨⟨_, _, _, rfl, hc⟩, h1⟩
        · exact h1.elim
      · exact h1.elim
    · exact h.elim
/-- a call of a method with the contract C -/
def xRunOk (E : xE) (R : Room) (own : String) (cc : ByteArray) (nL : Nat) (init : Bool) (pc : Nat) (rc : Option Nat) (n kc ks : Nat) (C : xPT) : Prop := ∀ (p : Program) (l : Launch) (en : Env) (s : State) (m : MethodId) (args : Array Value) (below : List Frame) (meth : Method) (c : Code) (A : Nat → Prop), xCtx E p s m args meth c cc own nL init A →
  ∀ (asc : List Nat) (lw : xW) (K1 : xKo) (avc : List Value) (H : Heap) (locs : List Loc) (k1 k2 : Nat) (la : Array Slot) (rest : List Value), C avc lw K1 → avc.length = n → asc.length = lw.length → va_P E.1 vwCl (xG E asc lw) H → va_D (fun _ => True) (xG E asc lw) → (∀ q, va_A (xG E asc lw) H.size q → A q) → va_S A s.heap H locs → la.size = nL → (rest.map fun v => v.category).sum ≤ 8 → k1 + kc ≤ R.cells → k2 + ks ≤ R.slots → xrecv rc avc lw →
  va_Run p l en R s m args below meth c H locs k1 k2 kc ks (F0 m pc la ((avc.map (xcv E asc)).reverse ++ rest)) rest (xQ E asc K1 (va_A (xG E asc lw) H.size) ((avc.map (xcv E asc)).toArray)) (va_A (xG E asc lw) H.size)
theorem x_pre {E : xE} {p : Program} {s : State} {m : MethodId} {args : Array Value} {meth : Method} {c : Code} {cc : ByteArray} {own : String} {nL : Nat} {init : Bool} {A : Nat → Prop} (X : xCtx E p s m args meth c cc own nL init A) {asc : List Nat} {lw : xW} {H : Heap} {locs : List Loc} (hl : asc.length = lw.length) (hP : va_P E.1 vwCl (xG E asc lw) H) (hD : va_D (fun _ => True) (xG E asc lw)) (hA : ∀ q, va_A (xG E asc lw) H.size q → A q) (hS : va_S A s.heap H locs) {U : State} (hU : U.heap = H) (hW : s.WarmedH U.vm) : xPre E asc lw H.size U := by
  refine ⟨by rw [hU], hl, by rw [hU]; exact hP, va_K.moved hW.alike X.2.2.2.2.2.1, hD, ?_⟩
  rw [hU]
  exact xStat_narrow (xStat_warm hW (xStat_kept X.2.2.2.2.2.2.1 hS.2.1)) hA
section RUN
variable {E : xE} {R : Room} {own : String} {cc : ByteArray} {nL : Nat} {init : Bool}
variable {y : MethodName} {cy : ByteArray} {maxL : Nat} {rt : Option FieldType} {d kc ks n idx : Nat} {C : xPT}
theorem run_V (pc : Nat) {C0 : String} {ci N : Nat} {T : u_T} (hSn : xSnd y cy maxL rt d kc ks C) (hc : vwCl[ci]? = some (C0, T, N)) (wm : Cond.methodLink own idx y ∈ xT) (wi : Cond.instanceMethod y ∈ xT) (wsl : Cond.selects C0 y y ∈ xT) (wn : Cond.initialized C0 ∈ xT) (wc : Cond.code y cy maxL rt ∈ xT) (hd : y.cls = C0 ∧ y.cls ≠ "java/lang/invoke/MethodHandle" ∧ y.cls ≠ "java/lang/invoke/VarHandle" ∧ (parseMethodDescriptor y.desc).map (fun d => d.parameters.length) = some n) (hR : d + 2 ≤ R.frames ∧ 8 + (maxL + 11) + 60 * (d + 1) ≤ R.locals) (hdg : decode cc pc = .ok (.invokevirtual idx, 3)) : xRunOk E R own cc nL init pc (some ci) (n + 1) kc ks C := by
  intro p l en s m args below meth c A X asc lw K1 avc H locs k1 k2 la rest hC hn hl hP hD hA hS hla hcat h1 h2 hrv
  obtain ⟨q, vs, fs, rfl, hq⟩ := hrv
  have e : ((Value.ref q :: vs).map (xcv E asc)).reverse ++ rest = (vs.map (xcv E asc)).reverse ++ .ref (asc.getD q 0) :: rest := by
    rw [List.map_cons, List.reverse_cons, List.append_assoc]
    rfl
  rw [e]
  have hrec := va_recv X.2.2.2.2.2.1 hP hc (xG_get (E := E) hl hq)
  exact va_runV (As := vs.map (xcv E asc)) (rest := rest) ⟨X.1, X.2.1, X.2.2.1, X.2.2.2.1, X.2.2.2.2.1⟩ (hSn l E asc H.size (.ref q :: vs) lw K1 hC) (cwV (C := C0) n X.2.2.2.2.1 (x_good (fun w hw => by
    simp only [wsV, List.mem_append, List.mem_cons, List.not_mem_nil, or_false] at hw
    rcases hw with (rfl | rfl | rfl | rfl) | rfl | hw
    · exact wm
    · exact wi
    · exact wsl
    · exact wn
    · exact wc
    · exact hw)) rfl rfl rfl hd ⟨hR.1, hR.2⟩) ⟨x_blind _ _ _ _ _, hrec, fun U hU hW => ⟨rfl, x_pre X hl hP hD hA hS hU hW⟩⟩ rfl (by rw [List.length_map]; simpa using hn) hla rfl (lv_room hcat) hdg ⟨h1, h2⟩
theorem run_S (pc : Nat) (hSn : xSnd y cy maxL rt d kc ks C) (wm : Cond.methodLink own idx y ∈ xT) (wi : Cond.static y ∈ xT) (wn : Cond.initialized y.cls ∈ xT) (wc : Cond.code y cy maxL rt ∈ xT) (hd : y.cls ≠ "java/lang/invoke/MethodHandle" ∧ y.cls ≠ "java/lang/invoke/VarHandle" ∧ (parseMethodDescriptor y.desc).map (fun d => d.parameters.length) = some n) (hR : d + 2 ≤ R.frames ∧ 8 + (maxL + 11) + 60 * (d + 1) ≤ R.locals) (hdg : decode cc pc = .ok (.invokestatic idx, 3)) : xRunOk E R own cc nL init pc none n kc ks C := by
  intro p l en s m args below meth c A X asc lw K1 avc H locs k1 k2 la rest hC hn hl hP hD hA hS hla hcat h1 h2 hrv
  exact va_runS (As := avc.map (xcv E asc)) (rest := rest) ⟨X.1, X.2.1, X.2.2.1, X.2.2.2.1, X.2.2.2.2.1⟩ (hSn l E asc H.size avc lw K1 hC) (va_cwS n X.2.2.2.2.1 (x_good (fun w hw => by
    simp only [va_wsS, List.mem_append, List.mem_cons, List.not_mem_nil, or_false] at hw
    rcases hw with (rfl | rfl | rfl) | rfl | hw
    · exact wm
    · exact wi
    · exact wn
    · exact wc
    · exact hw)) rfl rfl rfl hd ⟨hR.1, hR.2⟩) ⟨x_blind _ _ _ _ _, fun U hU hW => ⟨rfl, x_pre X hl hP hD hA hS hU hW⟩⟩ rfl (by rw [List.length_map]; exact hn) hla rfl (lv_room hcat) hdg ⟨h1, h2⟩
theorem run_N (pc : Nat) {host : String} (hSn : xSnd y cy maxL rt d kc ks C) (wm : Cond.methodLinkNest own idx y host ∈ xNest) (wi : Cond.static y ∈ xT) (wn : Cond.initialized y.cls ∈ xT) (wc : Cond.code y cy maxL rt ∈ xT) (hd : y.cls ≠ "java/lang/invoke/MethodHandle" ∧ y.cls ≠ "java/lang/invoke/VarHandle" ∧ (parseMethodDescriptor y.desc).map (fun d => d.parameters.length) = some n) (hR : d + 2 ≤ R.frames ∧ 8 + (maxL + 11) + 60 * (d + 1) ≤ R.locals) (hdg : decode cc pc = .ok (.invokestatic idx, 3)) : xRunOk E R own cc nL init pc none n kc ks C := by
  intro p l en s m args below meth c A X asc lw K1 avc H locs k1 k2 la rest hC hn hl hP hD hA hS hla hcat h1 h2 hrv
  exact va_runSN (As := avc.map (xcv E asc)) (rest := rest) ⟨X.1, X.2.1, X.2.2.1, X.2.2.2.1, X.2.2.2.2.1⟩ (hSn l E asc H.size avc lw K1 hC) ⟨va_cnB n X.2.2.2.2.1 (x_good (fun w hw => by
    rcases List.mem_cons.mp hw with rfl | hw
    · exact wc
    · exact hw)) rfl rfl rfl (X.2.2.2.2.2.2.1.2.2.2.2.1 _ wm) (X.2.2.2.2.1 _ wn) hd ⟨hR.1, hR.2⟩, X.2.2.2.2.1 _ wi, trivial⟩ ⟨x_blind _ _ _ _ _, fun U hU hW => ⟨rfl, x_pre X hl hP hD hA hS hU hW⟩⟩ rfl (by rw [List.length_map]; exact hn) hla rfl (lv_room hcat) hdg ⟨h1, h2⟩
theorem run_I (pc : Nat) {host : String} (hSn : xSnd y cy maxL none d kc ks C) {ci : Nat} (hy1 : y.name = "<init>") (wm : Cond.methodLinkNest own idx y host ∈ xNest) (wi : Cond.instanceMethod y ∈ xT) (wn : Cond.initialized y.cls ∈ xT) (wc : Cond.code y cy maxL none ∈ xT) (hd : y.cls ≠ "java/lang/invoke/MethodHandle" ∧ y.cls ≠ "java/lang/invoke/VarHandle" ∧ (parseMethodDescriptor y.desc).map (fun d => d.parameters.length) = some n) (hR : d + 2 ≤ R.frames ∧ 8 + (maxL + 11) + 60 * (d + 1) ≤ R.locals) (hdg : decode cc pc = .ok (.invokespecial idx, 3)) : xRunOk E R own cc nL init pc (some ci) (n + 1) kc ks C := by
  intro p l en s m args below meth c A X asc lw K1 avc H locs k1 k2 la rest hC hn hl hP hD hA hS hla hcat h1 h2 hrv
  obtain ⟨q, vs, fs, rfl, hq⟩ := hrv
  have e : ((Value.ref q :: vs).map (xcv E asc)).reverse ++ rest = (vs.map (xcv E asc)).reverse ++ .ref (asc.getD q 0) :: rest := by
    rw [List.map_cons, List.reverse_cons, List.append_assoc]
    rfl
  rw [e]
  exact va_runIN (As := vs.map (xcv E asc)) (rest := rest) ⟨X.1, X.2.1, X.2.2.1, X.2.2.2.1, X.2.2.2.2.1⟩ (hSn l E asc H.size (.ref q :: vs) lw K1 hC) ⟨va_cnB n X.2.2.2.2.1 (x_good (fun w hw => by
    rcases List.mem_cons.mp hw with rfl | hw
    · exact wc
    · exact hw)) rfl rfl rfl (X.2.2.2.2.2.2.1.2.2.2.2.1 _ wm) (X.2.2.2.2.1 _ wn) hd ⟨hR.1, hR.2⟩, hy1, X.2.2.2.2.1 _ wi⟩ ⟨x_blind _ _ _ _ _, fun U hU hW => ⟨rfl, x_pre X hl hP hD hA hS hU hW⟩⟩ rfl (by rw [List.length_map]; simpa using hn) hla rfl (lv_room hcat) hdg ⟨h1, h2⟩
theorem run_P (pc : Nat) (hSn : xSnd y cy maxL none d kc ks C) {ci : Nat} (hy1 : y.name = "<init>") (wm : Cond.methodLink own idx y ∈ xT) (wi : Cond.instanceMethod y ∈ xT) (wn : Cond.initialized y.cls ∈ xT) (wc : Cond.code y cy maxL none ∈ xT) (hd : y.cls ≠ "java/lang/invoke/MethodHandle" ∧ y.cls ≠ "java/lang/invoke/VarHandle" ∧ (parseMethodDescriptor y.desc).map (fun d => d.parameters.length) = some n) (hR : d + 2 ≤ R.frames ∧ 8 + (maxL + 11) + 60 * (d + 1) ≤ R.locals) (hdg : decode cc pc = .ok (.invokespecial idx, 3)) : xRunOk E R own cc nL init pc (some ci) (n + 1) kc ks C := by
  intro p l en s m args below meth c A X asc lw K1 avc H locs k1 k2 la rest hC hn hl hP hD hA hS hla hcat h1 h2 hrv
  obtain ⟨q, vs, fs, rfl, hq⟩ := hrv
  have e : ((Value.ref q :: vs).map (xcv E asc)).reverse ++ rest = (vs.map (xcv E asc)).reverse ++ .ref (asc.getD q 0) :: rest := by
    rw [List.map_cons, List.reverse_cons, List.append_assoc]
    rfl
  rw [e]
  exact va_runI (As := vs.map (xcv E asc)) (rest := rest) ⟨X.1, X.2.1, X.2.2.1, X.2.2.2.1, X.2.2.2.2.1⟩ (hSn l E asc H.size (.ref q :: vs) lw K1 hC) (cwI n X.2.2.2.2.1 (x_good (fun w hw => by
    rcases List.mem_cons.mp hw with rfl | hw
    · exact wc
    · exact hw)) rfl rfl rfl (X.2.2.2.2.1 _ wn) (X.2.2.2.2.1 _ wm) (X.2.2.2.2.1 _ wi) hy1 hd ⟨hR.1, hR.2⟩) ⟨x_blind _ _ _ _ _, fun U hU hW => ⟨rfl, x_pre X hl hP hD hA hS hU hW⟩⟩ rfl (by rw [List.length_map]; simpa using hn) hla rfl (lv_room hcat) hdg ⟨h1, h2⟩
end RUN
end
section
/-! ===== a call in a run; the whole method ===== -/
theorem xokF_app {n : Nat} : ∀ {a b : List Value}, xokF n (a ++ b) = true → xokF n b = true
  | [], b, h => h
  | v :: a, b, h => by
    rw [List.cons_append] at h
    unfold xokF at h
    rw [Bool.and_eq_true] at h
    exact xokF_app h.2
section CORE
variable {E : xE} {R : Room} {own : String} {cc : ByteArray} {nL : Nat} {rt : Option FieldType} {init : Bool}
theorem x_sub {as pi : List Nat} {w lw : xW} (hlen : as.length = w.length) (hl : lw.length = pi.length) (hg : ∀ (j i : Nat), pi[j]? = some i → ∃ c c' : xC, w[i]? = some c ∧ lw[j]? = some c' ∧ ∀ (E : xE) (as : List Nat), xce E (xpm as pi) c' = xce E as c) {j : Nat} {x : Nat × va_E} (h : (xG E (xpm as pi) lw)[j]? = some x) : ∃ i, pi[j]? = some i ∧ (xG E as w)[i]? = some x := by
  obtain ⟨c', h1, h2, h3⟩ := xG_at h
  have hj : j < pi.length := by rw [← hl]; exact (List.getElem?_eq_some_iff.mp h1).1
  have hi := List.getElem?_eq_getElem hj
  obtain ⟨c, c2, g1, g2, g3⟩ := hg j _ hi
  cases g2.symm.trans h1
  exact ⟨_, hi, by rw [h3, xG_get hlen g1, g3, xpm_get hi]⟩
theorem x_nodup {l : List Nat} (h : l.Nodup) {i j a : Nat} (h1 : l[i]? = some a) (h2 : l[j]? = some a) : i = j := by
  obtain ⟨hi, e1⟩ := List.getElem?_eq_some_iff.mp h1
  obtain ⟨hj, e2⟩ := List.getElem?_eq_some_iff.mp h2
  exact (List.getElem_inj (xs := l) h).mp (e1.trans e2.symm)
/-- what a callee left, in its caller's world -/
theorem x_back {A : Nat → Prop} {H H1 : Heap} {as nw pi : List Nat} {w lw lw' w2 ex : xW} (hlen : as.length = w.length) (hl : lw.length = pi.length) (hnd : pi.Nodup) (hpl : ∀ a ∈ pi, a < w.length)
    (hg : ∀ (j i : Nat), pi[j]? = some i → ∃ c c' : xC, w[i]? = some c ∧ lw[j]? = some c' ∧ ∀ (E : xE) (as : List Nat), xce E (xpm as pi) c' = xce E as c)
    (hP : va_P E.1 vwCl (xG E as w) H) (hD : va_D A (xG E as w)) (hA : ∀ q, va_A (xG E (xpm as pi) lw) H.size q → A q)
    (hl' : (xpm as pi ++ nw).length = lw'.length) (hP1 : va_P E.1 vwCl (xG E (xpm as pi ++ nw) lw') H1) (hD1 : va_D (va_A (xG E (xpm as pi) lw) H.size) (xG E (xpm as pi ++ nw) lw')) (hk : ∀ q : Nat, q < H.size → ¬ va_A (xG E (xpm as pi) lw) H.size q → H1[q]? = H[q]?)
    (h2 : w2.length = w.length) (h3 : lw'.length = pi.length + ex.length) (s1 : ∀ (j i : Nat) (c : xC), pi[j]? = some i → lw'[j]? = some c → ∃ c' : xC, w2[i]? = some c' ∧ xUp w.length pi c c') (s2 : ∀ i : Nat, i ∉ pi → w2[i]? = w[i]?) (s3 : ∀ (j : Nat) (c : xC), lw'[pi.length + j]? = some c → ∃ c' : xC, ex[j]? = some c' ∧ xUp w.length pi c c')
    (hF : ∀ (k : Nat) (c : xC), w[k]? = some c → xce E (as ++ nw) c = xce E as c) :
    (as ++ nw).length = (w2 ++ ex).length ∧ va_P E.1 vwCl (xG E (as ++ nw) (w2 ++ ex)) H1 ∧ va_D A (xG E (as ++ nw) (w2 ++ ex)) := by
  have hpm : (xpm as pi).length = pi.length := List.length_map _
  have hnw : nw.length = ex.length := by
    rw [List.length_append, hpm, h3] at hl'
    omega
  have hlen2 : (as ++ nw).length = (w2 ++ ex).length := by rw [List.length_append, List.length_append, hlen, h2, hnw]
  -- an old place apart from the callee's is not the callee's to write
  have apart : ∀ (k : Nat) (x : Nat × va_E), (xG E as w)[k]? = some x → k ∉ pi → x.1 < H.size ∧ ¬ va_A (xG E (xpm as pi) lw) H.size x.1 := by
    intro k x hx hk'
    have hlt := (hP k x hx).lt
    refine ⟨hlt, fun z => ?_⟩
    rcases z with ⟨j, e, z⟩ | z
    · obtain ⟨i, g1, g2⟩ := x_sub hlen hl hg z
      have := hD.1 k i x _ hx g2 rfl
      subst this
      exact hk' (List.mem_of_getElem? g1)
    · omega
  -- each cell of the new world: one of the callee's, or an old one
  have key : ∀ (k : Nat) (x : Nat × va_E), (xG E (as ++ nw) (w2 ++ ex))[k]? = some x → (∃ j, (xG E (xpm as pi ++ nw) lw')[j]? = some x ∧ ((pi[j]? = some k ∧ k < w.length) ∨ (j = pi.length + (k - w.length) ∧ w.length ≤ k))) ∨ (k < w.length ∧ k ∉ pi ∧ (xG E as w)[k]? = some x) := by
    intro k x hx
    obtain ⟨c, g1, g2, g3⟩ := xG_at hx
    by_cases hkw : k < w.length
    · have g1' : w2[k]? = some c := by rw [List.getElem?_append_left (by omega)] at g1; exact g1
      have ga : (as ++ nw).getD k 0 = as.getD k 0 := x_gd (by omega)
      by_cases hp : k ∈ pi
      · obtain ⟨j, hj⟩ := List.getElem?_of_mem hp
        have hjl : j < lw'.length := by
          have := (List.getElem?_eq_some_iff.mp hj).1
          omega
        have e1 := List.getElem?_eq_getElem hjl
        obtain ⟨c', e2, e3⟩ := s1 j k _ hj e1
        cases e2.symm.trans g1'
        refine Or.inl ⟨j, ?_, Or.inl ⟨hj, hkw⟩⟩
        rw [xG_get hl' e1, g3, ga, x_gd (by rw [hpm]; exact (List.getElem?_eq_some_iff.mp hj).1), xpm_get hj, e3 E as nw hlen hpl]
      · have g1'' : w[k]? = some c := by rw [← s2 k hp]; exact g1'
        refine Or.inr ⟨hkw, hp, ?_⟩
        rw [xG_get hlen g1'', g3, ga, hF k c g1'']
    · have g1' : ex[k - w.length]? = some c := by rw [List.getElem?_append_right (by omega), h2] at g1; exact g1
      have hjl : pi.length + (k - w.length) < lw'.length := by
        have := (List.getElem?_eq_some_iff.mp g1').1
        omega
      have e1 := List.getElem?_eq_getElem hjl
      obtain ⟨c', e2, e3⟩ := s3 _ _ e1
      cases e2.symm.trans g1'
      refine Or.inl ⟨_, ?_, Or.inr ⟨rfl, by omega⟩⟩
      rw [xG_get hl' e1, g3, e3 E as nw hlen hpl]
      have f1 : (as ++ nw).getD k 0 = nw.getD (k - w.length) 0 := by
        rw [List.getD_eq_getElem?_getD, List.getElem?_append_right (by omega), hlen, List.getD_eq_getElem?_getD]
      have f2 : (xpm as pi ++ nw).getD (pi.length + (k - w.length)) 0 = nw.getD (k - w.length) 0 := by
        rw [List.getD_eq_getElem?_getD, List.getElem?_append_right (by omega), hpm, Nat.add_sub_cancel_left, List.getD_eq_getElem?_getD]
      rw [f1, f2]
  refine ⟨hlen2, fun k x hx => ?_, fun i j x y hi hj hxy => ?_, fun k x hx => ?_⟩
  · rcases key k x hx with ⟨j, h, -⟩ | ⟨h1, h2, h⟩
    · exact hP1 j x h
    · exact (hP k x h).kept (hk x.1 (apart k x h h2).1 (apart k x h h2).2)
  · rcases key i x hi with ⟨a, h, hc⟩ | ⟨h1, h2, h⟩ <;> rcases key j y hj with ⟨b, g, hd⟩ | ⟨g1, g2, g⟩
    · have hab := hD1.1 a b x y h g hxy
      subst hab
      rcases hc with ⟨c1, c2⟩ | ⟨c1, c2⟩ <;> rcases hd with ⟨d1, d2⟩ | ⟨d1, d2⟩
      · exact Option.some.inj (c1.symm.trans d1)
      · have := (List.getElem?_eq_some_iff.mp c1).1
        omega
      · have := (List.getElem?_eq_some_iff.mp d1).1
        omega
      · omega
    · exact absurd (hxy ▸ hD1.2 a x h) (apart j y g g2).2
    · exact absurd (hxy ▸ hD1.2 b y g) (hxy ▸ (apart i x h h2).2)
    · exact hD.1 i j x y h g hxy
  · rcases key k x hx with ⟨j, h, -⟩ | ⟨h1, h2, h⟩
    · exact hA _ (hD1.2 j x h)
    · exact hD.2 k x h
theorem ok_core (pc : Nat) {instr : Instr} {g : Bool} {MC MS kc ks n : Nat} {rc : Option Nat} {C : xPT} (hrun : decode cc pc = .ok (instr, 3) → xRunOk E R own cc nL init pc rc n kc ks C) (hR : MC ≤ R.cells ∧ MS ≤ R.slots) : xOk E R own cc nL rt init (pc, instr, 3, xs_call g MC MS kc ks rc n C) := by
  intro hd p l en s m args below meth c Q A as0 K X hR' ls st w b go h k
  unfold xs_call at h
  dsimp only at h
  obtain ⟨vs, st', hst, hn, h⟩ := xpop_spec h
  rw [List.append_nil] at h
  split at h
  · next e =>
    rw [Bool.and_eq_true] at e
    obtain ⟨e1, e2⟩ := e
    have e1 := x_beqT e1
    obtain ⟨h, hbz⟩ := xbud_any h
    have hb' : b.1 ≤ R.cells ∧ b.2 ≤ R.slots → b.1 + kc ≤ R.cells ∧ b.2 + ks ≤ R.slots := by
      intro z
      rcases hbz with ⟨z1, z2⟩ | ⟨z1, z2⟩
      · omega
      · exact ⟨Nat.le_trans z1 hR.1, Nat.le_trans z2 hR.2⟩
    obtain ⟨hrv, h⟩ := xrck_spec h
    have hrl : vs.reverse.length = n := by rw [List.length_reverse]; exact hn
    split at h
    · -- the callee's world is the caller's
      have h := h C rfl
      intro nw H locs la hbb hlen hP hD hS hl
      obtain ⟨hb1, hb2⟩ := hb' hbb
      have hst2 : st.map (xcv E (as0 ++ nw)) = ((vs.reverse).map (xcv E (as0 ++ nw))).reverse ++ st'.map (xcv E (as0 ++ nw)) := by
        rw [hst, List.map_append, List.map_reverse, List.reverse_reverse]
      rw [hst2]
      have hA1 : ∀ q, va_A (xG E (as0 ++ nw) w) H.size q → A q := by
        intro q hq
        rcases hq with ⟨j, x, hq⟩ | hq
        · exact hD.2 j _ hq
        · exact X.2.2.2.2.2.2.2.1 q (Nat.le_trans hS.1 hq)
      refine x_after (hrun hd p l en s m args below meth c A X (as0 ++ nw) w _ vs.reverse H locs b.1 b.2 la (st'.map (xcv E (as0 ++ nw))) h hrl hlen hP (hD.weaken fun _ _ _ _ => trivial) hA1 hS hl.1 (by rw [x_sum]; exact e1) (by omega) (by omega) hrv) hS hA1 hA1 ?_
      intro r w' nw2 H1 locs1 hK hln hP1 hD1 hz hk1 hS1
      split at hK
      · next e3 =>
        have e3 := xbeq e3
        have hnil : nw2 = [] := by
          rw [List.length_append] at hln
          exact List.length_eq_zero_iff.mp (by omega)
        subst hnil
        rw [List.append_nil] at hln hP1 hD1 ⊢
        have hD2 : va_D A (xG E (as0 ++ nw) w') := hD1.weaken fun _ _ _ hq => hA1 _ hq
        cases r with
        | none => exact k none _ _ _ _ hK nw H1 locs1 la ⟨by omega, by omega⟩ hln hP1 hD2 hS1 hl
        | some v => exact k none _ _ _ _ hK nw H1 locs1 la ⟨by omega, by omega⟩ hln hP1 hD2 hS1 hl
      · exact hK.elim
    · obtain ⟨pi, h, hnd, hpl⟩ := xpi_spec h List.nodup_nil (fun a ha => by cases ha)
      obtain ⟨av', h, hal, hav, hah⟩ := xdnF_spec h
      obtain ⟨lw, h, hll, hlg⟩ := xga_spec h
      have h := h C rfl
      intro nw H locs la hbb hlen hP hD hS hl
      obtain ⟨hb1, hb2⟩ := hb' hbb
      have hst2 : st.map (xcv E (as0 ++ nw)) = (av'.map (xcv E (xpm (as0 ++ nw) pi))).reverse ++ st'.map (xcv E (as0 ++ nw)) := by
        rw [hst, List.map_append, hav, List.map_reverse, List.reverse_reverse]
      rw [hst2]
      have hsub := fun j x (hx : (xG E (xpm (as0 ++ nw) pi) lw)[j]? = some x) => x_sub (E := E) hlen hll hlg hx
      have hA1 : ∀ q, va_A (xG E (xpm (as0 ++ nw) pi) lw) H.size q → A q := by
        intro q hq
        rcases hq with ⟨j, x, hq⟩ | hq
        · obtain ⟨i, -, hi⟩ := hsub j _ hq
          exact hD.2 i _ hi
        · exact X.2.2.2.2.2.2.2.1 q (Nat.le_trans hS.1 hq)
      have hPc : va_P E.1 vwCl (xG E (xpm (as0 ++ nw) pi) lw) H := fun j x hx => by
        obtain ⟨i, -, hi⟩ := hsub j x hx
        exact hP i x hi
      have hDc : va_D (fun _ => True) (xG E (xpm (as0 ++ nw) pi) lw) := ⟨fun i j x y hx hy hxy => by
        obtain ⟨i1, g1, g2⟩ := hsub i x hx
        obtain ⟨j1, g3, g4⟩ := hsub j y hy
        have := hD.1 i1 j1 x y g2 g4 hxy
        subst this
        exact x_nodup hnd g1 g3, fun _ _ _ => trivial⟩
      have hrv' : xrecv rc av' lw := by
        cases rc with
        | none => trivial
        | some ci =>
          obtain ⟨q, vs2, fs, hq1, hq2⟩ := hrv
          obtain ⟨j, r', hj1, hj2⟩ := hah q vs2 hq1
          obtain ⟨c1, c2, g1, g2, g3⟩ := hlg j q hj2
          cases g1.symm.trans hq2
          have g4 := g3 E (as0 ++ nw)
          match c2, g2, g4 with
          | .inl a, _, g4 => cases g4
          | .inr (.inl (t, xs)), _, g4 => cases g4
          | .inr (.inr (cj, fs2)), g2, g4 =>
            have : cj = ci := congrArg (fun z : va_E => match z with | .inl _ => 0 | .inr o => o.1) g4
            subst this
            exact ⟨j, r', fs2, hj1, g2⟩
      refine x_after (hrun hd p l en s m args below meth c A X (xpm (as0 ++ nw) pi) lw _ av' H locs b.1 b.2 la (st'.map (xcv E (as0 ++ nw))) h (by rw [hal]; exact hrl) (by rw [hll]; exact List.length_map _) hPc hDc hA1 hS hl.1 (by rw [x_sum]; exact e1) (by omega) (by omega) hrv') hS hA1 hA1 ?_
      intro r lw' nw2 H1 locs1 hK hln hP1 hD1 hz hk1 hS1
      obtain ⟨w2, ex, hK, q2, q3, qg, q5, q6, q7⟩ := xsc_spec hK hnd
      have hpm : (xpm (as0 ++ nw) pi).length = pi.length := List.length_map _
      have hF : (∀ (k : Nat) (c : xC), w[k]? = some c → xce E ((as0 ++ nw) ++ nw2) c = xce E (as0 ++ nw) c) ∧ xlv E ((as0 ++ nw) ++ nw2) ls = xlv E (as0 ++ nw) ls ∧ st'.map (xcv E ((as0 ++ nw) ++ nw2)) = st'.map (xcv E (as0 ++ nw)) := by
        cases g with
        | false =>
          have : ex = [] := qg rfl
          subst this
          have : nw2 = [] := by
            rw [List.length_append, hpm, q3, List.length_nil] at hln
            exact List.length_eq_zero_iff.mp (by omega)
          subst this
          rw [List.append_nil]
          exact ⟨fun _ _ _ => rfl, rfl, rfl⟩
        | true =>
          have e2 : xok ls (vs.reverse ++ st') w = true := e2
          obtain ⟨o1, o2, o3⟩ := xok_spec e2
          exact ⟨fun k c hc => xce_app (Nat.le_of_eq hlen.symm) (xokW_get o3 hc), xlv_app (Nat.le_of_eq hlen.symm) o1, xcvF_app (Nat.le_of_eq hlen.symm) (xokF_app o2)⟩
      obtain ⟨b1, b2, b3⟩ := x_back hlen hll hnd hpl hlg hP hD hA1 hln hP1 hD1 hk1 q2 q3 q5 q6 q7 hF.1
      have e4 : as0 ++ (nw ++ nw2) = (as0 ++ nw) ++ nw2 := (List.append_assoc _ _ _).symm
      have hl2 : lv_has la nL (xlv E (as0 ++ (nw ++ nw2)) ls) := by rw [e4, hF.2.1]; exact hl
      cases r with
      | none =>
        have := k none _ _ _ _ hK (nw ++ nw2) H1 locs1 la ⟨by omega, by omega⟩ (by rw [e4]; exact b1) (by rw [e4]; exact b2) (by rw [e4]; exact b3) hS1 hl2
        rw [e4, hF.2.2] at this
        exact this
      | some v =>
        unfold xret at hK
        obtain ⟨v', hK, hv⟩ := xupV_spec hK
        have := k none _ _ _ _ hK (nw ++ nw2) H1 locs1 la ⟨by omega, by omega⟩ (by rw [e4]; exact b1) (by rw [e4]; exact b2) (by rw [e4]; exact b3) hS1 hl2
        rw [List.map_cons, e4, hF.2.2, hv E (as0 ++ nw) nw2 hlen hpl] at this
        exact this
  · exact h.elim
end CORE
def xchain : List xEl → Bool
  | [] => true
  | [_] => true
  | e :: e' :: r => Nat.beq e'.1 (e.1 + e.2.2.1) && xchain (e' :: r)
theorem xchain_at : ∀ {pre : List xEl} {e e' : xEl} {r : List xEl}, xchain (pre ++ e :: e' :: r) = true → e'.1 = e.1 + e.2.2.1
  | [], e, e', r, h => by
    rw [List.nil_append] at h
    unfold xchain at h
    rw [Bool.and_eq_true] at h
    exact xbeq h.1
  | [a], e, e', r, h => by
    have h : xchain (a :: e :: e' :: r) = true := h
    unfold xchain at h
    rw [Bool.and_eq_true] at h
    exact xchain_at (pre := []) h.2
  | a :: b :: pre, e, e', r, h => by
    have h : xchain (a :: b :: (pre ++ e :: e' :: r)) = true := h
    unfold xchain at h
    rw [Bool.and_eq_true] at h
    exact xchain_at (pre := b :: pre) h.2
theorem xseek_spec {t : Nat} : ∀ {prog : List xEl}, xseek prog t = [] ∨ ∃ pre e r, prog = pre ++ e :: r ∧ xseek prog t = e :: r ∧ e.1 = t
  | [] => Or.inl rfl
  | a :: prog => by
    unfold xseek
    split
    · next e => exact Or.inr ⟨[], a, prog, rfl, rfl, xbeq e⟩
    · rcases xseek_spec (prog := prog) (t := t) with h | ⟨pre, e, r, h1, h2, h3⟩
      · exact Or.inl h
      · exact Or.inr ⟨a :: pre, e, r, by rw [h1]; rfl, h2, h3⟩
section MAST
variable {E : xE} {R : Room} {own : String} {cc : ByteArray} {nL : Nat} {rt : Option FieldType} {init : Bool}
theorem xWat_weak {p : Program} {l : Launch} {en : Env} {s : State} {m : MethodId} {args : Array Value} {below : List Frame} {meth : Method} {c : Code} {Q : State → Prop} {A : Nat → Prop} {as0 : List Nat} {pc : Nat} {ls ls' : xL} {st : List Value} {w : xW} {b : xB} (h : xWat E R p l en s m args below meth c Q A as0 nL pc ls' st w b) (hs : ∀ q ∈ ls', q ∈ ls) : xWat E R p l en s m args below meth c Q A as0 nL pc ls st w b := by
  intro nw H locs la hbb hlen hP hD hS hl
  refine h nw H locs la hbb hlen hP hD hS (lv_has_sub hl fun q hq => ?_)
  obtain ⟨x, hx, rfl⟩ := List.mem_map.mp hq
  exact List.mem_map.mpr ⟨x, hs x hx, rfl⟩
theorem xrun_sound {prog : List xEl} (hdec : ∀ e ∈ prog, decode cc e.1 = .ok (e.2.1, e.2.2.1)) (hch : xchain prog = true) (hok : ∀ e ∈ prog, xOk E R own cc nL rt init e) {p : Program} {l : Launch} {en : Env} {s : State} {m : MethodId} {args : Array Value} {below : List Frame} {meth : Method} {c : Code} {Q : State → Prop} {A : Nat → Prop} {as0 : List Nat} {K : xKo} {cuts : List (Nat × List Nat)}
    (X : xCtx E p s m args meth c cc own nL init A) (hR : xRet (xWat E R p l en s m args below meth c Q A as0 nL) cc rt K) : ∀ (n : Nat) (pre : List xEl) (e : xEl) (r : List xEl) (ls : xL) (st : List Value) (w : xW) (b : xB), prog = pre ++ e :: r → xrun prog cuts (xWat E R p l en s m args below meth c Q A as0 nL) K n (e :: r) ls st w b → xWat E R p l en s m args below meth c Q A as0 nL e.1 ls st w b
  | 0, _, _, _, _, _, _, _, _, h => by unfold xrun at h; exact h.elim
  | n + 1, pre, e, r, ls, st, w, b, hp, h => by
    unfold xrun at h
    have hm : e ∈ prog := by rw [hp]; simp
    refine hok e hm (hdec e hm) p l en s m args below meth c Q A as0 K X hR ls st w b _ h (fun t ls' st' w' b' hgo => ?_)
    cases t with
    | none =>
      cases r with
      | nil => exact hgo.elim
      | cons e' r' =>
        have he : e'.1 = e.1 + e.2.2.1 := xchain_at (pre := pre) (by rw [← hp]; exact hch)
        show xWat E R p l en s m args below meth c Q A as0 nL (e.1 + e.2.2.1) ls' st' w' b'
        rw [← he]
        dsimp only at hgo
        split at hgo
        · obtain ⟨l1, h1, h2⟩ := xkeep_spec hgo
          exact xWat_weak h1 h2
        · exact xrun_sound hdec hch hok X hR n (pre ++ [e]) e' r' ls' st' w' b' (by rw [hp]; simp) hgo
    | some t =>
      dsimp only at hgo
      show xWat E R p l en s m args below meth c Q A as0 nL t ls' st' w' b'
      rcases xseek_spec (prog := prog) (t := t) with hs | ⟨pre2, e2, r2, h1, h2, h3⟩
      · rw [hs] at hgo
        exact hgo.elim
      · rw [h2] at hgo
        rw [← h3]
        dsimp only at hgo
        split at hgo
        · obtain ⟨l1, h4, h5⟩ := xkeep_spec hgo
          exact xWat_weak h4 h5
        · exact xrun_sound hdec hch hok X hR n pre2 e2 r2 ls' st' w' b' h1 hgo
end MAST
theorem x_lgl {E : xE} {as : List Nat} (av : List Value) : (lg_sl (av.map (xcv E as))).length = (lg_sl av).length := by
  induction av with
  | nil => rfl
  | cons v r ih =>
    unfold lg_sl at ih ⊢
    rw [List.map_cons, List.flatMap_cons, List.flatMap_cons, List.length_append, List.length_append, ih]
    congr 1
    simp only [xcv_cat]
    split <;> rfl
theorem x_lva {E : xE} {as : List Nat} : ∀ (i : Nat) (av : List Value), lv_args i (av.map (xcv E as)) = xlv E as (lv_args i av)
  | _, [] => rfl
  | i, v :: r => by
    rw [List.map_cons]
    unfold lv_args
    rw [xcv_cat, x_lva _ r]
    rfl
theorem x_metW {l : Launch} {y : MethodName} {ws ws' : List Cond} {rm : Room} {Pc : Array Value → State → Prop} {Qc : Array Value → State → Outcome → State → Prop} {mc ms : Nat} {free : Addr → Prop} {cc : ByteArray} {maxL : Nat} {ret : Option FieldType}
    (hy : (plainName y.cls || plainFor y) = true) (hw : ws = Cond.code y cc maxL ret :: ws')
    (body : ∀ p e s m args below meth c s₁, BodyLoose p l y (headSpec ws rm) cc maxL ret e s m args below meth c s₁ → c.maxLocals = maxL → Pc args s →
      W p l e (headSpec ws rm).room s m args below meth c s.heap [] 0 0 (MQ below Qc args s mc ms free) (entryFrame m args maxL)) : Met l y ws rm Pc Qc mc ms free := by
  rw [Bool.or_eq_true] at hy
  rcases hy with hy | hy
  · exact Met.ofW hy hw body
  · exact va_MetF hy hw body
theorem xSnd_of {y : MethodName} {cc : ByteArray} {maxL d mc ms : Nat} {rt : Option FieldType} {init : Bool} {prog : List xEl} (hy : (plainName y.cls || plainFor y) = true) (hdec : ∀ e ∈ prog, decode cc e.1 = .ok (e.2.1, e.2.2.1)) (hch : xchain prog = true) (hi : init = true → y.name = "<init>")
    (hok : ∀ E, ∀ e ∈ prog, xOk E (xR d mc ms) y.cls cc maxL rt init e) : xSnd y cc maxL rt d mc ms (xM maxL prog) := by
  intro l E as sz av w K hC
  refine x_metW (cc := cc) (maxL := maxL) (ret := rt) hy rfl ?_
  intro p e s m args below meth c s₁ B hml hv
  obtain ⟨rfl, hsz, hlen, hP, hK, hD0, hst⟩ := hv
  subst hsz
  have hts := atoms_spec (ws := Cond.code y cc maxL rt :: xT) B.pre
  have hlocks := B.notSynchronized
  have hr := B.returns
  have X : xCtx E p s m (av.map (xcv E as)).toArray meth c cc y.cls maxL init (va_A (xG E as w) s.heap.size) := ⟨B.exec, B.bytes, hml, findClass_of_methodNamed B.named, fun w hw => hts w (List.mem_cons_of_mem _ hw), hK, hst, fun q h => Or.inr h, fun z => by
    rw [(name_of_methodNamed B.named B.method).1]; exact hi z⟩
  unfold xM at hC
  split at hC
  · next e5 =>
    have e5 := x_beqT e5
    have hR : xRet (xWat E (xR d mc ms) p l e s m (av.map (xcv E as)).toArray below meth c (MQ below (xQ E as K (va_A (xG E as w) s.heap.size)) (av.map (xcv E as)).toArray s mc ms (va_A (xG E as w) s.heap.size)) (va_A (xG E as w) s.heap.size) as maxL) cc rt K := by
      intro pc ls w' b
      have fin : ∀ (r : Option Value) (nw : List Nat) (H : Heap) (locs : List Loc), K r w' → (as ++ nw).length = w'.length → va_P E.1 vwCl (xG E (as ++ nw) w') H → va_D (va_A (xG E as w) s.heap.size) (xG E (as ++ nw) w') → va_S (va_A (xG E as w) s.heap.size) s.heap H locs → ∀ t : State, t.heap = H → xQ E as K (va_A (xG E as w) s.heap.size) (av.map (xcv E as)).toArray s (.returned (r.map (xcv E (as ++ nw)))) t :=
        fun r nw H locs hk h1 h2 h3 h4 t ht => ⟨⟨r, w', nw, rfl, hk, h1, by rw [ht]; exact h2, h3⟩, h4.F ht⟩
      refine ⟨fun v ty hd ht hn hk => ?_, fun q hd ht hk => ?_, fun hd ht hk => ?_⟩
      · intro nw H locs la hbb hl1 hP hD hS hl
        exact W.widen hbb.1 hbb.2 (W.zret (ty := ty) B.exec B.bytes (by rw [hr, ht]) hn (fun t h1 _ => fin (some (.int v)) nw H locs hk hl1 hP hD hS t h1) hS.2.2 hd)
      · intro nw H locs la hbb hl1 hP hD hS hl
        exact W.widen hbb.1 hbb.2 (W.aret (rt := .array .int) B.exec B.bytes (by rw [hr, ht]) (Or.inr ⟨_, rfl⟩) (Or.inr ⟨_, rfl⟩) (fun t h1 _ => fin (some (.ref q)) nw H locs hk hl1 hP hD hS t h1) hS.2.2 hd)
      · intro nw H locs la hbb hl1 hP hD hS hl
        exact W.widen hbb.1 hbb.2 (W.vret B.exec B.bytes (by rw [hr, ht]) (fun t h1 _ => fin none nw H locs hk hl1 hP hD hS t h1) hS.2.2 hd)
    have hW := hC (xWat E (xR d mc ms) p l e s m (av.map (xcv E as)).toArray below meth c (MQ below (xQ E as K (va_A (xG E as w) s.heap.size)) (av.map (xcv E as)).toArray s mc ms (va_A (xG E as w) s.heap.size)) (va_A (xG E as w) s.heap.size) as maxL) (fun n cuts pc ls st w' b h => by
      rcases xseek_spec (prog := prog) (t := pc) with hs | ⟨pre2, e2, r2, h1, h2, h3⟩
      · rw [hs] at h
        cases n <;> (unfold xrun at h; exact h.elim)
      · rw [h2] at h
        rw [← h3]
        exact xrun_sound hdec hch (hok E) X hR n pre2 e2 r2 ls st w' b h1 h)
    rw [lg_entry_eq]
    have hl := lv_entry (av.map (xcv E as)) (n := maxL) (by rw [x_lgl]; exact e5)
    rw [x_lva] at hl
    have := hW [] s.heap [] _ ⟨Nat.zero_le _, Nat.zero_le _⟩ (by rw [List.append_nil]; exact hlen) (by rw [List.append_nil]; exact hP) (by rw [List.append_nil]; exact hD0.self) va_S.rf (by rw [List.append_nil]; exact hl)
    exact this
  · exact hC.elim
end
section
/-! ===== a method's bytes, read in one pass ===== -/
abbrev fR (α : Type) : Type := List UInt8 → Option (α × Nat × List UInt8)
def fSim {α : Type} (r : Decoder α) (f : fR α) : Prop := ∀ (c : ByteArray) (p : Nat) (l : List UInt8) (a : α) (n : Nat) (l' : List UInt8), c.data.toList.drop p = l → f l = some (a, n, l') → r c p = .ok (a, p + n) ∧ c.data.toList.drop (p + n) = l'
def fpure {α : Type} (a : α) : fR α := fun l => some (a, 0, l)
def fu1 : fR Nat
  | [] => none
  | b :: r => some (b.toNat, 1, r)
def fbind {α β : Type} (f : fR α) (g : α → fR β) : fR β := fun l => match f l with
  | none => none
  | some x => match g x.1 x.2.2 with
    | none => none
    | some y => some (y.1, x.2.1 + y.2.1, y.2.2)
def fu2 : fR Nat := fbind fu1 fun h => fbind fu1 fun l => fpure (h * 256 + l)
def fs1 : fR Int := fbind fu1 fun x => fpure (Reader.signed 8 x)
def fs2 : fR Int := fbind fu2 fun x => fpure (Reader.signed 16 x)
theorem fs_u1 : fSim Reader.u1 fu1 := by
  intro c p l a n l' hd hf
  cases l with
  | nil => cases hf
  | cons b r =>
    have hp : p < c.data.toList.length := by
      apply Classical.byContradiction
      intro h
      rw [List.drop_eq_nil_of_le (by omega)] at hd
      cases hd
    rw [List.drop_eq_getElem_cons hp] at hd
    have hb := (List.cons.inj hd).1
    have hr := (List.cons.inj hd).2
    cases hf
    refine ⟨?_, hr⟩
    have hs : p < c.size := hp
    have hc : c[p] = b := hb
    have e : (Reader.u1 : Decoder Nat) c p = (if h : p < c.size then (do set (p + 1); pure (c[p]).toNat : Decoder Nat) else throw (HasTruncated.truncated p)) c p := rfl
    rw [e, dif_pos hs, hc]
    rfl
theorem fs_pure {α : Type} (a : α) : fSim (pure a) (fpure a) := by
  intro c p l b n l' hd hf
  cases hf
  exact ⟨rfl, hd⟩
theorem fs_bind {α β : Type} {r : Decoder α} {k : α → Decoder β} {f : fR α} {g : α → fR β} (h : fSim r f) (hg : ∀ a, fSim (k a) (g a)) : fSim (r >>= k) (fbind f g) := by
  intro c p l a n l' hd hf
  unfold fbind at hf
  cases e1 : f l with
  | none => rw [e1] at hf; cases hf
  | some x =>
    obtain ⟨a1, n1, l1⟩ := x
    rw [e1] at hf
    have q1 := h c p l a1 n1 l1 hd e1
    cases e2 : g a1 l1 with
    | none =>
      simp only [e2] at hf
      cases hf
    | some y =>
      obtain ⟨a2, n2, l2⟩ := y
      have q2 := hg a1 c (p + n1) l1 a2 n2 l2 q1.2 e2
      simp only [e2] at hf
      cases hf
      have e : (r >>= k) c p = (r c p >>= fun x => k x.1 c x.2) := rfl
      refine ⟨?_, by rw [← Nat.add_assoc]; exact q2.2⟩
      rw [e, q1.1, ← Nat.add_assoc]
      exact q2.1
theorem fs_map {α β : Type} {r : Decoder α} {f : fR α} (φ : α → β) (h : fSim r f) : fSim (φ <$> r) (fbind f fun x => fpure (φ x)) := by
  have q := fs_bind (k := fun x => pure (φ x)) h (fun x => fs_pure (φ x))
  intro c p l a n l' hd hf
  have e : (φ <$> r) c p = (r >>= fun x => (pure (φ x) : Decoder β)) c p := rfl
  rw [e]
  exact q c p l a n l' hd hf
theorem fs_u2 : fSim Reader.u2 fu2 := fs_bind (k := fun h => Reader.u1 >>= fun l => pure (h * 256 + l)) fs_u1 fun _ => fs_bind (k := fun l => pure (_ * 256 + l)) fs_u1 fun _ => fs_pure _
theorem fs_s1 : fSim Reader.s1 fs1 := fs_map _ fs_u1
theorem fs_s2 : fSim Reader.s2 fs2 := fs_map _ fs_u2
def fT : List (Nat × fR Instr) := [(42, fpure (.aload_n 0)), (26, fpure (.iload_n 0)), (27, fpure (.iload_n 1)), (28, fpure (.iload_n 2)), (29, fpure (.iload_n 3)), (2, fpure (.iconst (-1))), (3, fpure (.iconst 0)), (4, fpure (.iconst 1)), (5, fpure (.iconst 2)), (6, fpure (.iconst 3)), (7, fpure (.iconst 4)), (8, fpure (.iconst 5)), (180, fbind fu2 fun x => fpure (.getfield x)), (182, fbind fu2 fun x => fpure (.invokevirtual x)), (172, fpure .ireturn), (46, fpure .iaload), (21, fbind fu1 fun x => fpure (.iload x)), (96, fpure .iadd), (16, fbind fs1 fun x => fpure (.bipush x)), (167, fbind fs2 fun x => fpure (.goto x)), (153, fbind fs2 fun x => fpure (.ifCond .eq x)), (154, fbind fs2 fun x => fpure (.ifCond .ne x)), (155, fbind fs2 fun x => fpure (.ifCond .lt x)), (156, fbind fs2 fun x => fpure (.ifCond .ge x)), (157, fbind fs2 fun x => fpure (.ifCond .gt x)), (158, fbind fs2 fun x => fpure (.ifCond .le x)), (159, fbind fs2 fun x => fpure (.if_icmp .eq x)), (160, fbind fs2 fun x => fpure (.if_icmp .ne x)), (161, fbind fs2 fun x => fpure (.if_icmp .lt x)), (162, fbind fs2 fun x => fpure (.if_icmp .ge x)), (163, fbind fs2 fun x => fpure (.if_icmp .gt x)), (164, fbind fs2 fun x => fpure (.if_icmp .le x)), (184, fbind fu2 fun x => fpure (.invokestatic x)), (43, fpure (.aload_n 1)), (44, fpure (.aload_n 2)), (45, fpure (.aload_n 3)), (87, fpure .pop), (54, fbind fu1 fun x => fpure (.istore x)), (59, fpure (.istore_n 0)), (60, fpure (.istore_n 1)), (61, fpure (.istore_n 2)), (62, fpure (.istore_n 3)), (181, fbind fu2 fun x => fpure (.putfield x)), (100, fpure .isub), (79, fpure .iastore), (89, fpure .dup), (104, fpure .imul), (112, fpure .irem), (177, fpure .return_), (126, fpure .iand), (50, fpure .aaload), (18, fbind fu1 fun x => fpure (.ldc x)), (132, fbind fu1 fun x => fbind fs1 fun y => fpure (.iinc x y)), (17, fbind fs2 fun x => fpure (.sipush x)), (183, fbind fu2 fun x => fpure (.invokespecial x)), (25, fbind fu1 fun x => fpure (.aload x)), (187, fbind fu2 fun x => fpure (.new x)), (120, fpure .ishl), (190, fpure .arraylength), (108, fpure .idiv), (92, fpure .dup2), (130, fpure .ixor), (124, fpure .iushr), (122, fpure .ishr), (83, fpure .aastore), (116, fpure .ineg), (127, fpure .land), (128, fpure .ior), (133, fpure .i2l), (121, fpure .lshl), (129, fpure .lor), (136, fpure .l2i), (125, fpure .lushr), (123, fpure .lshr), (147, fpure .i2s), (145, fpure .i2b), (52, fpure .caload), (176, fpure .areturn), (75, fpure (.astore_n 0)), (76, fpure (.astore_n 1)), (77, fpure (.astore_n 2)), (78, fpure (.astore_n 3)), (30, fpure (.lload_n 0)), (31, fpure (.lload_n 1)), (32, fpure (.lload_n 2)), (33, fpure (.lload_n 3)), (19, fbind fu2 fun x => fpure (.ldc_w x)), (20, fbind fu2 fun x => fpure (.ldc2_w x)), (58, fbind fu1 fun x => fpure (.astore x)), (178, fbind fu2 fun x => fpure (.getstatic x)), (189, fbind fu2 fun x => fpure (.anewarray x))]
def fAll (K : Nat → Decoder Instr) : List (Nat × fR Instr) → Prop
  | [] => True
  | e :: r => fSim (K e.1) e.2 ∧ fAll K r
set_option maxRecDepth 20000 in
theorem f_instr (pc : Nat) : ∃ K : Nat → Decoder Instr, Decoder.instr pc = Reader.u1 >>= K ∧ fAll K fT :=
  ⟨_, rfl, fs_pure _, fs_pure _, fs_pure _, fs_pure _, fs_pure _, fs_pure _, fs_pure _, fs_pure _, fs_pure _, fs_pure _, fs_pure _, fs_pure _, fs_bind fs_u2 fun _ => fs_pure _, fs_bind fs_u2 fun _ => fs_pure _, fs_pure _, fs_pure _, fs_bind fs_u1 fun _ => fs_pure _, fs_pure _, fs_bind fs_s1 fun _ => fs_pure _, fs_bind fs_s2 fun _ => fs_pure _, fs_bind fs_s2 fun _ => fs_pure _, fs_bind fs_s2 fun _ => fs_pure _, fs_bind fs_s2 fun _ => fs_pure _, fs_bind fs_s2 fun _ => fs_pure _, fs_bind fs_s2 fun _ => fs_pure _, fs_bind fs_s2 fun _ => fs_pure _, fs_bind fs_s2 fun _ => fs_pure _, fs_bind fs_s2 fun _ => fs_pure _, fs_bind fs_s2 fun _ => fs_pure _, fs_bind fs_s2 fun _ => fs_pure _, fs_bind fs_s2 fun _ => fs_pure _, fs_bind fs_s2 fun _ => fs_pure _, fs_bind fs_u2 fun _ => fs_pure _, fs_pure _, fs_pure _, fs_pure _, fs_pure _, fs_bind fs_u1 fun _ => fs_pure _, fs_pure _, fs_pure _, fs_pure _, fs_pure _, fs_bind fs_u2 fun _ => fs_pure _, fs_pure _, fs_pure _, fs_pure _, fs_pure _, fs_pure _, fs_pure _, fs_pure _, fs_pure _, fs_bind fs_u1 fun _ => fs_pure _, fs_bind fs_u1 fun _ => fs_bind fs_s1 fun _ => fs_pure _, fs_bind fs_s2 fun _ => fs_pure _, fs_bind fs_u2 fun _ => fs_pure _, fs_bind fs_u1 fun _ => fs_pure _, fs_bind fs_u2 fun _ => fs_pure _, fs_pure _, fs_pure _, fs_pure _, fs_pure _, fs_pure _, fs_pure _, fs_pure _, fs_pure _, fs_pure _, fs_pure _, fs_pure _, fs_pure _, fs_pure _, fs_pure _, fs_pure _, fs_pure _, fs_pure _, fs_pure _, fs_pure _, fs_pure _, fs_pure _, fs_pure _, fs_pure _, fs_pure _, fs_pure _, fs_pure _, fs_pure _, fs_pure _, fs_pure _, fs_bind fs_u2 fun _ => fs_pure _, fs_bind fs_u2 fun _ => fs_pure _, fs_bind fs_u1 fun _ => fs_pure _, fs_bind fs_u2 fun _ => fs_pure _, fs_bind fs_u2 fun _ => fs_pure _, trivial⟩
def fFind : List (Nat × fR Instr) → Nat → fR Instr
  | [], _, _ => none
  | e :: r, b, l => match Nat.beq e.1 b with
    | true => e.2 l
    | false => fFind r b l
theorem fFind_ok {K : Nat → Decoder Instr} {b : Nat} : ∀ {T : List (Nat × fR Instr)}, fAll K T → fSim (K b) (fFind T b)
  | [], _ => fun c p l a n l' _ hf => by cases hf
  | e :: r, h => fun c p l a n l' hd hf => by
    unfold fFind at hf
    split at hf
    · rename_i q
      have q := Nat.eq_of_beq_eq_true q
      subst q
      exact h.1 c p l a n l' hd hf
    · exact fFind_ok h.2 c p l a n l' hd hf
def fOne : fR Instr := fbind fu1 (fFind fT)
theorem fOne_ok {c : ByteArray} {p : Nat} {l : List UInt8} {i : Instr} {n : Nat} {l' : List UInt8} (hd : c.data.toList.drop p = l) (hf : fOne l = some (i, n, l')) : decode c p = .ok (i, n) ∧ c.data.toList.drop (p + n) = l' := by
  obtain ⟨K, hK, hT⟩ := f_instr p
  have q := fs_bind (k := K) fs_u1 (fun b => fFind_ok (b := b) hT) c p l i n l' hd hf
  rw [← hK] at q
  have e : decode c p = (Decoder.instr p c p >>= fun x => pure (x.1, x.2 - p)) := rfl
  refine ⟨?_, q.2⟩
  rw [e, q.1]
  show Except.ok (i, p + n - p) = _
  rw [Nat.add_sub_cancel_left]
def fChk (c : ByteArray) : List (Nat × Instr × Nat) → List UInt8 → Nat → Bool
  | [], _, _ => true
  | e :: r, l, p => match Nat.beq e.1 p with
    | false => false
    | true => match fOne l with
      | some x => match decide (x.1 = e.2.1) with
        | true => match Nat.beq x.2.1 e.2.2 with
          | true => fChk c r x.2.2 (e.1 + e.2.2)
          | false => false
        | false => false
      | none => match decide (decode c e.1 = .ok (e.2.1, e.2.2)) with
        | true => fChk c r (l.drop e.2.2) (e.1 + e.2.2)
        | false => false
theorem fChk_ok {c : ByteArray} : ∀ {prog : List (Nat × Instr × Nat)} {l : List UInt8} {p : Nat}, c.data.toList.drop p = l → fChk c prog l p = true → ∀ e ∈ prog, decode c e.1 = .ok (e.2.1, e.2.2)
  | [], _, _, _, _, e, he => by cases he
  | e :: r, l, p, hd, h, e', he => by
    unfold fChk at h
    split at h
    · cases h
    · rename_i hp
      have hp := Nat.eq_of_beq_eq_true hp
      split at h
      · rename_i x hx
        obtain ⟨i, n, l'⟩ := x
        split at h
        · rename_i hi
          have hi : i = e.2.1 := of_decide_eq_true hi
          split at h
          · rename_i hn
            have hn : n = e.2.2 := Nat.eq_of_beq_eq_true hn
            have q := fOne_ok hd hx
            rcases List.mem_cons.mp he with rfl | he
            · rw [hp, ← hi, ← hn]
              exact q.1
            · refine fChk_ok ?_ h e' he
              rw [hp, ← hn]
              exact q.2
          · cases h
        · cases h
      · split at h
        · rename_i hq
          have hq := of_decide_eq_true hq
          rcases List.mem_cons.mp he with rfl | he
          · exact hq
          · refine fChk_ok ?_ h e' he
            rw [← hd, List.drop_drop, hp]
        · cases h
theorem fDec {c : ByteArray} {prog : List (Nat × Instr × Nat)} (h : fChk c prog c.data.toList 0 = true) : ∀ e ∈ prog, decode c e.1 = .ok e.2 := fChk_ok List.drop_zero h
theorem fDecP {c : ByteArray} {prog : List xEl} (h : fChk c (prog.map fun e => (e.1, e.2.1, e.2.2.1)) c.data.toList 0 = true) : ∀ e ∈ prog, decode c e.1 = .ok (e.2.1, e.2.2.1) := fun e he => fChk_ok List.drop_zero h (e.1, e.2.1, e.2.2.1) (List.mem_map.mpr ⟨e, he, rfl⟩)
end
