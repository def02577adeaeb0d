/-! ===== a sheet played in thought, exactly ===== -/
def srM (x : Int32) : Int32 := if 6 ≤ x &&& 7 then (x &&& 7) - 6 else x &&& 7
def sr1 (t x : Int32) (p : xS × xXt) : xS × xXt := (clS p.1, ePlay p.1 p.2 (srM x) t)
def srG (f : Nat → Int32) (t : Int32) : Nat → xS × xXt → xS × xXt
  | 0, p => p
  | n + 1, p => sr1 t (f n) (srG f t n p)
def srC (f : Nat → Int32) (t : Int32) : Nat → xS × xXt → Int32
  | 0, _ => 0
  | n + 1, p => srC f t n p + nI (cnN (srG f t n p).1 (srG f t n p).2 (srM (f n)) t)
abbrev srZ (s t : Int32) (σ : xZ) : xS × xXt := srG (σ.1.2.2 (nat s)) t (nat (σ.1.2.2 4 (nat s))) (σ.1.1, σ.2.1)
abbrev srW (s t : Int32) (σ : xZ) : Int32 := srC (σ.1.2.2 (nat s)) t (nat (σ.1.2.2 4 (nat s))) (σ.1.1, σ.2.1)
def z_series (s t w : Int32) (σ : xZ) : Int32 := if xin s 4 ∧ xin t 10 ∧ xin w 2 then (if σ.1.2.2 5 (nat s) = 0 then -1000000002 else if w = 0 then (srZ s t σ).2.2.1 else srW s t σ) else -1000000001
theorem srI {f : Nat → Int32} {t : Int32} {s : xS} {X : xXt} (I : cIv s X) : ∀ i, cIv (srG f t i (s, X)).1 (srG f t i (s, X)).2 := by
  intro i
  induction i with
  | zero => exact I
  | succ i ih => exact cIv.play ih
theorem bare7 (b x : Int32) : bare b x &&& 7 = x &&& 7 := by
  unfold bare
  split
  · rw [Int32.and_assoc, show (255 : Int32) &&& 7 = 7 by decide]
  split
  · rw [Int32.and_assoc, show (65535 : Int32) &&& 7 = 7 by decide]
  · rfl
theorem sr_bare (b x : Int32) : srM (bare b x) = srM x := by
  unfold srM
  rw [bare7]
theorem sx_playE2 (F v s : xS) (X : xXt) (T : tH F v s X) (I : cIv s X) (m0 m t : Int32) (u : Nat) (hu : u < 10) (et : t = nI u) (em : m = m0) {K : xKo} (h : ∀ F' v', tR aP bQ F v F' v' → tH F' v' (clS s) (ePlay s X m0 t) → K (some (.int (eSet s X m0 t))) (xfill F' v' 0 (wT0 0))) : C_T_play [.ref 0, .int m, .int t] (xfill F v 0 (wT0 0)) K := by
  subst et
  subst em
  exact sx_play F v s X T I m u hu h
theorem sx_callsE2 (F v s : xS) (X : xXt) (T : tM (F 1) s X) (I : cIv s X) (b0 b t : Int32) (u : Nat) (hu : u < 10) (et : t = nI u) (eb : b = b0) (tk : v 0 15 = 0) {K : xKo} (h : ∀ F' v', (∀ k, ¬ k = 1 → F' k = F k) → mR r2 F v F' v' → tM (F' 1) (clS s) (ePlay s X b0 t) → K (some (.int (eSet s X b0 t))) (xfill F' v' 0 (wM0 0))) : C_M_calls [.ref 0, .int b, .int t] (xfill F v 0 (wM0 0)) K := by
  subst eb
  exact sx_callsE F v s X T I b t u hu et tk h
set_option maxRecDepth 100000 in
theorem HX_series (n : Nat) (σ : xZ) (F v : xS) (R : HR n σ F v) (s t w : Int32) {K : xKo} (h : hK n σ (z_series s t w σ) K) : C_H_series [.ref 0, .int s, .int t, .int w] (xfill F v 0 wH0) K := by
  obtain ⟨n0, h0, e0⟩ := R.2.2.2.1.1
  obtain ⟨n1, h1, e1⟩ := R.2.2.2.1.2
  have I := R.J
  obtain ⟨hj, h4, h5, -, -⟩ := R.2.2.1.2.1.el
  refine xM_go rfl 200 [(68, [0, 1, 2, 3, 4, 5, 6])] fun P hP => ?_
  refine xcall (sp_isBelow _ _ (fun a1 => ?_) (fun a1 => ?_))
  · refine br_c (fun _ => ?_) (fun z => absurd rfl z)
    refine xcall (sp_errH F v 1 (by decide) ?_)
    exact R.err h _ (if_neg fun z => a1 z.1)
  have a1 : xin s 4 := a1
  refine br_c (fun z => absurd z (by decide)) (fun _ => ?_)
  refine xcall (sp_isSteps _ (fun a2 => ?_) (fun a2 => ?_))
  · refine br_c (fun _ => ?_) (fun z => absurd rfl z)
    refine xcall (sp_errH F v 1 (by decide) ?_)
    exact R.err h _ (if_neg fun z => a2 z.2.1)
  refine br_c (fun z => absurd z (by decide)) (fun _ => ?_)
  refine xcall (sp_isBelow _ _ (fun a3 => ?_) (fun a3 => ?_))
  · refine br_n (fun z => absurd rfl z) (fun _ => ?_)
    refine xcall (sp_errH F v 1 (by decide) ?_)
    exact R.err h _ (if_neg fun z => a3 z.2.2)
  refine br_n (fun _ => ?_) (fun z => absurd z (by decide))
  have ef : z_series s t w σ = if σ.1.2.2 5 (nat s) = 0 then -1000000002 else if w = 0 then (srZ s t σ).2.2.1 else srW s t σ := if_pos ⟨a1, a2, a3⟩
  obtain ⟨u, hu, eu, -⟩ := nI_ofx t (n := 10) a2 (by decide)
  have hu : u < 10 := by omega
  refine ⟨vin a1, ⟨fun es => ?_, ⟨fun es => ?_, ⟨fun es => ?_, ⟨fun es => ?_, trivial⟩⟩⟩⟩⟩
  · have es : s = 0 := es
    have ek : nat s = 0 := by rw [es]; decide
    rw [ek] at ef
    have b4 : below 40 (v 61 1) := I.2.1.2.1.1
    obtain ⟨nn, hnn, enn⟩ := b4
    have e4 : σ.1.2.2 4 0 = nI nn := ((h4 0 (by decide)).symm.trans (show hRs F v 4 0 = v 61 1 from rfl)).trans enn
    have e5 : v 61 2 = σ.1.2.2 5 0 := (show v 61 2 = hRs F v 5 0 from rfl).trans (h5 0 (by decide))
    have fj : ∀ j, j < 40 → F 62 j = σ.1.2.2 0 j := fun j l => (show F 62 j = hRs F v 0 j from rfl).trans (hj 0 j (by decide) l)
    obtain ⟨f, ff⟩ : ∃ f : Nat → Int32, f = σ.1.2.2 0 := ⟨_, rfl⟩
    have eZ : srZ s t σ = srG f t nn (σ.1.1, σ.2.1) := by
      show srG (σ.1.2.2 (nat s)) t (nat (σ.1.2.2 4 (nat s))) (σ.1.1, σ.2.1) = _
      rw [ek, e4, ff, show nat (nI nn) = nn from nI_clamp (by omega)]
    have eW : srW s t σ = srC f t nn (σ.1.1, σ.2.1) := by
      show srC (σ.1.2.2 (nat s)) t (nat (σ.1.2.2 4 (nat s))) (σ.1.1, σ.2.1) = _
      rw [ek, e4, ff, show nat (nI nn) = nn from nI_clamp (by omega)]
    rw [eZ, eW] at ef
    rw [← ff] at fj
    have key : ¬ σ.1.2.2 5 0 = 0 → ∀ (d i : Nat) (F' v' : xS), i + d = nn → hG F v F' v' → tH (fun k => F' (37 + k)) (fun k => v' (37 + k)) (srG f t i (σ.1.1, σ.2.1)).1 (srG f t i (σ.1.1, σ.2.1)).2 → xWP pg_H_series K 68 [(0, .ref 0), (1, .int s), (2, .int t), (3, .int w), (4, .ref 61), (5, .int (srC f t i (σ.1.1, σ.2.1))), (6, .int (nI i))] [] (xfill F' v' 0 wH0) (0, 0) := by
      intro u0 d
      rw [if_neg u0] at ef
      induction d with
      | zero =>
        intro i F' v' hi E T
        have hi : i = nn := hi
        subst hi
        have e : v' 61 1 = nI i := (E.2 61 1 rfl).trans enn
        refine xWP_go 200 [(68, [0, 1, 2, 3, 4, 5, 6])] fun P hP => ?_
        refine br_c (fun _ => ?_) (fun z => ?_)
        · refine br_n (fun y => ?_) (fun y => ?_)
          · rw [if_neg y] at ef
            exact R.go h E ef
          · rw [if_pos y] at ef
            exact R.go h E (ef.trans T.1.2.2.2.symm)
        · have z : ¬ v' 61 1 ≤ nI i := z
          rw [e, nI_leI (by omega) (by omega)] at z
          omega
      | succ d ih =>
        intro i F' v' hi E T
        have e : v' 61 1 = nI nn := (E.2 61 1 rfl).trans enn
        have nx := ih (i + 1)
        obtain ⟨p, ep⟩ : ∃ p, p = srG f t i (σ.1.1, σ.2.1) := ⟨_, rfl⟩
        have eG : srG f t (i + 1) (σ.1.1, σ.2.1) = (clS p.1, ePlay p.1 p.2 (srM (f i)) t) := by rw [ep]; rfl
        have eC : srC f t (i + 1) (σ.1.1, σ.2.1) = srC f t i (σ.1.1, σ.2.1) + nI (cnN p.1 p.2 (srM (f i)) t) := by rw [ep]; rfl
        have Ip : cIv p.1 p.2 := by rw [ep]; exact srI R.c i
        rw [eG, eC] at nx
        rw [← ep] at T
        have ei : Int32.toNatClampNeg (nI i) = i := nI_clamp (by omega)
        have en : F' 62 (Int32.toNatClampNeg (nI i)) = f i := by rw [ei, E.1 62 rfl]; exact fj i (by omega)
        refine xWP_go 200 [(68, [0, 1, 2, 3, 4, 5, 6])] fun P hP => ?_
        refine br_c (fun z => ?_) (fun _ => ?_)
        · have z : v' 61 1 ≤ nI i := z
          rw [e, nI_leI (by omega) (by omega)] at z
          omega
        refine ⟨vp_in_nI (by omega) (by omega), ?_⟩
        refine br_c (fun z => ?_) (fun z => ?_)
        · have z : 6 ≤ F' 62 (Int32.toNatClampNeg (nI i)) &&& 7 := z
          have em : (F' 62 (Int32.toNatClampNeg (nI i)) &&& 7) - 6 = srM (f i) := by
            rw [en] at z ⊢
            exact (if_pos z).symm
          refine xcall (sx_playE2 (fun k => F' (37 + k)) (fun k => v' (37 + k)) p.1 p.2 T Ip (srM (f i)) _ t u hu eu em (fun G w2 E2 T2 => ?_))
          refine xcall (sx_bitCount _ (stN (eHad p.1 p.2 (srM (f i)) t) (nat (p.1 6 1))) rfl (by have := st128 Ip (b := srM (f i)) (t := t); omega) ?_)
          refine hP _ _ _ _ _ ?_
          rw [nI_1]
          exact nx (upS 37 F' G) (upS 37 v' w2) (by omega) (E.tr hG.up37) T2
        · have z : ¬ 6 ≤ F' 62 (Int32.toNatClampNeg (nI i)) &&& 7 := z
          have em : F' 62 (Int32.toNatClampNeg (nI i)) &&& 7 = srM (f i) := by
            rw [en] at z ⊢
            exact (if_neg z).symm
          refine xcall (sx_playE2 (fun k => F' (37 + k)) (fun k => v' (37 + k)) p.1 p.2 T Ip (srM (f i)) _ t u hu eu em (fun G w2 E2 T2 => ?_))
          refine xcall (sx_bitCount _ (stN (eHad p.1 p.2 (srM (f i)) t) (nat (p.1 6 1))) rfl (by have := st128 Ip (b := srM (f i)) (t := t); omega) ?_)
          refine hP _ _ _ _ _ ?_
          rw [nI_1]
          exact nx (upS 37 F' G) (upS 37 v' w2) (by omega) (E.tr hG.up37) T2
    refine xcall (sp_isMissing (fun k => F (61 + k)) (fun k => v (61 + k)) (fun m0 => ?_) (fun m0 => ?_))
    · have m0 : ¬ v 61 2 = 0 := m0
      rw [e5] at m0
      refine br_c (fun _ => ?_) (fun z => absurd rfl z)
      refine xcall (sp_copy (thF F) (thF v) n0 n1 h0 h1 e0 e1 ?_)
      refine hP _ _ _ _ _ ?_
      exact key m0 nn 0 (upS 37 F (cpF (thF F) n0 n1)) (upS 37 v (cpV (thF v) n0 n1)) (by omega) hG.up37 (R.t.copy R.c h0 h1 e0 e1)
    · have m0 : v 61 2 = 0 := m0
      rw [e5] at m0
      rw [if_pos m0] at ef
      refine br_c (fun z => absurd z (by decide)) (fun _ => ?_)
      refine xcall (sp_errH F v 2 (by decide) ?_)
      exact R.err h _ ef
  · have es : s = 1 := es
    have ek : nat s = 1 := by rw [es]; decide
    rw [ek] at ef
    have b4 : below 40 (v 63 1) := I.2.1.2.1.2.1
    obtain ⟨nn, hnn, enn⟩ := b4
    have e4 : σ.1.2.2 4 1 = nI nn := ((h4 1 (by decide)).symm.trans (show hRs F v 4 1 = v 63 1 from rfl)).trans enn
    have e5 : v 63 2 = σ.1.2.2 5 1 := (show v 63 2 = hRs F v 5 1 from rfl).trans (h5 1 (by decide))
    have fj : ∀ j, j < 40 → F 64 j = σ.1.2.2 1 j := fun j l => (show F 64 j = hRs F v 1 j from rfl).trans (hj 1 j (by decide) l)
    obtain ⟨f, ff⟩ : ∃ f : Nat → Int32, f = σ.1.2.2 1 := ⟨_, rfl⟩
    have eZ : srZ s t σ = srG f t nn (σ.1.1, σ.2.1) := by
      show srG (σ.1.2.2 (nat s)) t (nat (σ.1.2.2 4 (nat s))) (σ.1.1, σ.2.1) = _
      rw [ek, e4, ff, show nat (nI nn) = nn from nI_clamp (by omega)]
    have eW : srW s t σ = srC f t nn (σ.1.1, σ.2.1) := by
      show srC (σ.1.2.2 (nat s)) t (nat (σ.1.2.2 4 (nat s))) (σ.1.1, σ.2.1) = _
      rw [ek, e4, ff, show nat (nI nn) = nn from nI_clamp (by omega)]
    rw [eZ, eW] at ef
    rw [← ff] at fj
    have key : ¬ σ.1.2.2 5 1 = 0 → ∀ (d i : Nat) (F' v' : xS), i + d = nn → hG F v F' v' → tH (fun k => F' (37 + k)) (fun k => v' (37 + k)) (srG f t i (σ.1.1, σ.2.1)).1 (srG f t i (σ.1.1, σ.2.1)).2 → xWP pg_H_series K 68 [(0, .ref 0), (1, .int s), (2, .int t), (3, .int w), (4, .ref 63), (5, .int (srC f t i (σ.1.1, σ.2.1))), (6, .int (nI i))] [] (xfill F' v' 0 wH0) (0, 0) := by
      intro u0 d
      rw [if_neg u0] at ef
      induction d with
      | zero =>
        intro i F' v' hi E T
        have hi : i = nn := hi
        subst hi
        have e : v' 63 1 = nI i := (E.2 63 1 rfl).trans enn
        refine xWP_go 200 [(68, [0, 1, 2, 3, 4, 5, 6])] fun P hP => ?_
        refine br_c (fun _ => ?_) (fun z => ?_)
        · refine br_n (fun y => ?_) (fun y => ?_)
          · rw [if_neg y] at ef
            exact R.go h E ef
          · rw [if_pos y] at ef
            exact R.go h E (ef.trans T.1.2.2.2.symm)
        · have z : ¬ v' 63 1 ≤ nI i := z
          rw [e, nI_leI (by omega) (by omega)] at z
          omega
      | succ d ih =>
        intro i F' v' hi E T
        have e : v' 63 1 = nI nn := (E.2 63 1 rfl).trans enn
        have nx := ih (i + 1)
        obtain ⟨p, ep⟩ : ∃ p, p = srG f t i (σ.1.1, σ.2.1) := ⟨_, rfl⟩
        have eG : srG f t (i + 1) (σ.1.1, σ.2.1) = (clS p.1, ePlay p.1 p.2 (srM (f i)) t) := by rw [ep]; rfl
        have eC : srC f t (i + 1) (σ.1.1, σ.2.1) = srC f t i (σ.1.1, σ.2.1) + nI (cnN p.1 p.2 (srM (f i)) t) := by rw [ep]; rfl
        have Ip : cIv p.1 p.2 := by rw [ep]; exact srI R.c i
        rw [eG, eC] at nx
        rw [← ep] at T
        have ei : Int32.toNatClampNeg (nI i) = i := nI_clamp (by omega)
        have en : F' 64 (Int32.toNatClampNeg (nI i)) = f i := by rw [ei, E.1 64 rfl]; exact fj i (by omega)
        refine xWP_go 200 [(68, [0, 1, 2, 3, 4, 5, 6])] fun P hP => ?_
        refine br_c (fun z => ?_) (fun _ => ?_)
        · have z : v' 63 1 ≤ nI i := z
          rw [e, nI_leI (by omega) (by omega)] at z
          omega
        refine ⟨vp_in_nI (by omega) (by omega), ?_⟩
        refine br_c (fun z => ?_) (fun z => ?_)
        · have z : 6 ≤ F' 64 (Int32.toNatClampNeg (nI i)) &&& 7 := z
          have em : (F' 64 (Int32.toNatClampNeg (nI i)) &&& 7) - 6 = srM (f i) := by
            rw [en] at z ⊢
            exact (if_pos z).symm
          refine xcall (sx_playE2 (fun k => F' (37 + k)) (fun k => v' (37 + k)) p.1 p.2 T Ip (srM (f i)) _ t u hu eu em (fun G w2 E2 T2 => ?_))
          refine xcall (sx_bitCount _ (stN (eHad p.1 p.2 (srM (f i)) t) (nat (p.1 6 1))) rfl (by have := st128 Ip (b := srM (f i)) (t := t); omega) ?_)
          refine hP _ _ _ _ _ ?_
          rw [nI_1]
          exact nx (upS 37 F' G) (upS 37 v' w2) (by omega) (E.tr hG.up37) T2
        · have z : ¬ 6 ≤ F' 64 (Int32.toNatClampNeg (nI i)) &&& 7 := z
          have em : F' 64 (Int32.toNatClampNeg (nI i)) &&& 7 = srM (f i) := by
            rw [en] at z ⊢
            exact (if_neg z).symm
          refine xcall (sx_playE2 (fun k => F' (37 + k)) (fun k => v' (37 + k)) p.1 p.2 T Ip (srM (f i)) _ t u hu eu em (fun G w2 E2 T2 => ?_))
          refine xcall (sx_bitCount _ (stN (eHad p.1 p.2 (srM (f i)) t) (nat (p.1 6 1))) rfl (by have := st128 Ip (b := srM (f i)) (t := t); omega) ?_)
          refine hP _ _ _ _ _ ?_
          rw [nI_1]
          exact nx (upS 37 F' G) (upS 37 v' w2) (by omega) (E.tr hG.up37) T2
    refine xcall (sp_isMissing (fun k => F (63 + k)) (fun k => v (63 + k)) (fun m0 => ?_) (fun m0 => ?_))
    · have m0 : ¬ v 63 2 = 0 := m0
      rw [e5] at m0
      refine br_c (fun _ => ?_) (fun z => absurd rfl z)
      refine xcall (sp_copy (thF F) (thF v) n0 n1 h0 h1 e0 e1 ?_)
      refine hP _ _ _ _ _ ?_
      exact key m0 nn 0 (upS 37 F (cpF (thF F) n0 n1)) (upS 37 v (cpV (thF v) n0 n1)) (by omega) hG.up37 (R.t.copy R.c h0 h1 e0 e1)
    · have m0 : v 63 2 = 0 := m0
      rw [e5] at m0
      rw [if_pos m0] at ef
      refine br_c (fun z => absurd z (by decide)) (fun _ => ?_)
      refine xcall (sp_errH F v 2 (by decide) ?_)
      exact R.err h _ ef
  · have es : s = 2 := es
    have ek : nat s = 2 := by rw [es]; decide
    rw [ek] at ef
    have b4 : below 40 (v 65 1) := I.2.1.2.1.2.2.1
    obtain ⟨nn, hnn, enn⟩ := b4
    have e4 : σ.1.2.2 4 2 = nI nn := ((h4 2 (by decide)).symm.trans (show hRs F v 4 2 = v 65 1 from rfl)).trans enn
    have e5 : v 65 2 = σ.1.2.2 5 2 := (show v 65 2 = hRs F v 5 2 from rfl).trans (h5 2 (by decide))
    have fj : ∀ j, j < 40 → F 66 j = σ.1.2.2 2 j := fun j l => (show F 66 j = hRs F v 2 j from rfl).trans (hj 2 j (by decide) l)
    obtain ⟨f, ff⟩ : ∃ f : Nat → Int32, f = σ.1.2.2 2 := ⟨_, rfl⟩
    have eZ : srZ s t σ = srG f t nn (σ.1.1, σ.2.1) := by
      show srG (σ.1.2.2 (nat s)) t (nat (σ.1.2.2 4 (nat s))) (σ.1.1, σ.2.1) = _
      rw [ek, e4, ff, show nat (nI nn) = nn from nI_clamp (by omega)]
    have eW : srW s t σ = srC f t nn (σ.1.1, σ.2.1) := by
      show srC (σ.1.2.2 (nat s)) t (nat (σ.1.2.2 4 (nat s))) (σ.1.1, σ.2.1) = _
      rw [ek, e4, ff, show nat (nI nn) = nn from nI_clamp (by omega)]
    rw [eZ, eW] at ef
    rw [← ff] at fj
    have key : ¬ σ.1.2.2 5 2 = 0 → ∀ (d i : Nat) (F' v' : xS), i + d = nn → hG F v F' v' → tH (fun k => F' (37 + k)) (fun k => v' (37 + k)) (srG f t i (σ.1.1, σ.2.1)).1 (srG f t i (σ.1.1, σ.2.1)).2 → xWP pg_H_series K 68 [(0, .ref 0), (1, .int s), (2, .int t), (3, .int w), (4, .ref 65), (5, .int (srC f t i (σ.1.1, σ.2.1))), (6, .int (nI i))] [] (xfill F' v' 0 wH0) (0, 0) := by
      intro u0 d
      rw [if_neg u0] at ef
      induction d with
      | zero =>
        intro i F' v' hi E T
        have hi : i = nn := hi
        subst hi
        have e : v' 65 1 = nI i := (E.2 65 1 rfl).trans enn
        refine xWP_go 200 [(68, [0, 1, 2, 3, 4, 5, 6])] fun P hP => ?_
        refine br_c (fun _ => ?_) (fun z => ?_)
        · refine br_n (fun y => ?_) (fun y => ?_)
          · rw [if_neg y] at ef
            exact R.go h E ef
          · rw [if_pos y] at ef
            exact R.go h E (ef.trans T.1.2.2.2.symm)
        · have z : ¬ v' 65 1 ≤ nI i := z
          rw [e, nI_leI (by omega) (by omega)] at z
          omega
      | succ d ih =>
        intro i F' v' hi E T
        have e : v' 65 1 = nI nn := (E.2 65 1 rfl).trans enn
        have nx := ih (i + 1)
        obtain ⟨p, ep⟩ : ∃ p, p = srG f t i (σ.1.1, σ.2.1) := ⟨_, rfl⟩
        have eG : srG f t (i + 1) (σ.1.1, σ.2.1) = (clS p.1, ePlay p.1 p.2 (srM (f i)) t) := by rw [ep]; rfl
        have eC : srC f t (i + 1) (σ.1.1, σ.2.1) = srC f t i (σ.1.1, σ.2.1) + nI (cnN p.1 p.2 (srM (f i)) t) := by rw [ep]; rfl
        have Ip : cIv p.1 p.2 := by rw [ep]; exact srI R.c i
        rw [eG, eC] at nx
        rw [← ep] at T
        have ei : Int32.toNatClampNeg (nI i) = i := nI_clamp (by omega)
        have en : F' 66 (Int32.toNatClampNeg (nI i)) = f i := by rw [ei, E.1 66 rfl]; exact fj i (by omega)
        refine xWP_go 200 [(68, [0, 1, 2, 3, 4, 5, 6])] fun P hP => ?_
        refine br_c (fun z => ?_) (fun _ => ?_)
        · have z : v' 65 1 ≤ nI i := z
          rw [e, nI_leI (by omega) (by omega)] at z
          omega
        refine ⟨vp_in_nI (by omega) (by omega), ?_⟩
        refine br_c (fun z => ?_) (fun z => ?_)
        · have z : 6 ≤ F' 66 (Int32.toNatClampNeg (nI i)) &&& 7 := z
          have em : (F' 66 (Int32.toNatClampNeg (nI i)) &&& 7) - 6 = srM (f i) := by
            rw [en] at z ⊢
            exact (if_pos z).symm
          refine xcall (sx_playE2 (fun k => F' (37 + k)) (fun k => v' (37 + k)) p.1 p.2 T Ip (srM (f i)) _ t u hu eu em (fun G w2 E2 T2 => ?_))
          refine xcall (sx_bitCount _ (stN (eHad p.1 p.2 (srM (f i)) t) (nat (p.1 6 1))) rfl (by have := st128 Ip (b := srM (f i)) (t := t); omega) ?_)
          refine hP _ _ _ _ _ ?_
          rw [nI_1]
          exact nx (upS 37 F' G) (upS 37 v' w2) (by omega) (E.tr hG.up37) T2
        · have z : ¬ 6 ≤ F' 66 (Int32.toNatClampNeg (nI i)) &&& 7 := z
          have em : F' 66 (Int32.toNatClampNeg (nI i)) &&& 7 = srM (f i) := by
            rw [en] at z ⊢
            exact (if_neg z).symm
          refine xcall (sx_playE2 (fun k => F' (37 + k)) (fun k => v' (37 + k)) p.1 p.2 T Ip (srM (f i)) _ t u hu eu em (fun G w2 E2 T2 => ?_))
          refine xcall (sx_bitCount _ (stN (eHad p.1 p.2 (srM (f i)) t) (nat (p.1 6 1))) rfl (by have := st128 Ip (b := srM (f i)) (t := t); omega) ?_)
          refine hP _ _ _ _ _ ?_
          rw [nI_1]
          exact nx (upS 37 F' G) (upS 37 v' w2) (by omega) (E.tr hG.up37) T2
    refine xcall (sp_isMissing (fun k => F (65 + k)) (fun k => v (65 + k)) (fun m0 => ?_) (fun m0 => ?_))
    · have m0 : ¬ v 65 2 = 0 := m0
      rw [e5] at m0
      refine br_c (fun _ => ?_) (fun z => absurd rfl z)
      refine xcall (sp_copy (thF F) (thF v) n0 n1 h0 h1 e0 e1 ?_)
      refine hP _ _ _ _ _ ?_
      exact key m0 nn 0 (upS 37 F (cpF (thF F) n0 n1)) (upS 37 v (cpV (thF v) n0 n1)) (by omega) hG.up37 (R.t.copy R.c h0 h1 e0 e1)
    · have m0 : v 65 2 = 0 := m0
      rw [e5] at m0
      rw [if_pos m0] at ef
      refine br_c (fun z => absurd z (by decide)) (fun _ => ?_)
      refine xcall (sp_errH F v 2 (by decide) ?_)
      exact R.err h _ ef
  · have es : s = 3 := es
    have ek : nat s = 3 := by rw [es]; decide
    rw [ek] at ef
    have b4 : below 40 (v 67 1) := I.2.1.2.1.2.2.2
    obtain ⟨nn, hnn, enn⟩ := b4
    have e4 : σ.1.2.2 4 3 = nI nn := ((h4 3 (by decide)).symm.trans (show hRs F v 4 3 = v 67 1 from rfl)).trans enn
    have e5 : v 67 2 = σ.1.2.2 5 3 := (show v 67 2 = hRs F v 5 3 from rfl).trans (h5 3 (by decide))
    have fj : ∀ j, j < 40 → F 68 j = σ.1.2.2 3 j := fun j l => (show F 68 j = hRs F v 3 j from rfl).trans (hj 3 j (by decide) l)
    obtain ⟨f, ff⟩ : ∃ f : Nat → Int32, f = σ.1.2.2 3 := ⟨_, rfl⟩
    have eZ : srZ s t σ = srG f t nn (σ.1.1, σ.2.1) := by
      show srG (σ.1.2.2 (nat s)) t (nat (σ.1.2.2 4 (nat s))) (σ.1.1, σ.2.1) = _
      rw [ek, e4, ff, show nat (nI nn) = nn from nI_clamp (by omega)]
    have eW : srW s t σ = srC f t nn (σ.1.1, σ.2.1) := by
      show srC (σ.1.2.2 (nat s)) t (nat (σ.1.2.2 4 (nat s))) (σ.1.1, σ.2.1) = _
      rw [ek, e4, ff, show nat (nI nn) = nn from nI_clamp (by omega)]
    rw [eZ, eW] at ef
    rw [← ff] at fj
    have key : ¬ σ.1.2.2 5 3 = 0 → ∀ (d i : Nat) (F' v' : xS), i + d = nn → hG F v F' v' → tH (fun k => F' (37 + k)) (fun k => v' (37 + k)) (srG f t i (σ.1.1, σ.2.1)).1 (srG f t i (σ.1.1, σ.2.1)).2 → xWP pg_H_series K 68 [(0, .ref 0), (1, .int s), (2, .int t), (3, .int w), (4, .ref 67), (5, .int (srC f t i (σ.1.1, σ.2.1))), (6, .int (nI i))] [] (xfill F' v' 0 wH0) (0, 0) := by
      intro u0 d
      rw [if_neg u0] at ef
      induction d with
      | zero =>
        intro i F' v' hi E T
        have hi : i = nn := hi
        subst hi
        have e : v' 67 1 = nI i := (E.2 67 1 rfl).trans enn
        refine xWP_go 200 [(68, [0, 1, 2, 3, 4, 5, 6])] fun P hP => ?_
        refine br_c (fun _ => ?_) (fun z => ?_)
        · refine br_n (fun y => ?_) (fun y => ?_)
          · rw [if_neg y] at ef
            exact R.go h E ef
          · rw [if_pos y] at ef
            exact R.go h E (ef.trans T.1.2.2.2.symm)
        · have z : ¬ v' 67 1 ≤ nI i := z
          rw [e, nI_leI (by omega) (by omega)] at z
          omega
      | succ d ih =>
        intro i F' v' hi E T
        have e : v' 67 1 = nI nn := (E.2 67 1 rfl).trans enn
        have nx := ih (i + 1)
        obtain ⟨p, ep⟩ : ∃ p, p = srG f t i (σ.1.1, σ.2.1) := ⟨_, rfl⟩
        have eG : srG f t (i + 1) (σ.1.1, σ.2.1) = (clS p.1, ePlay p.1 p.2 (srM (f i)) t) := by rw [ep]; rfl
        have eC : srC f t (i + 1) (σ.1.1, σ.2.1) = srC f t i (σ.1.1, σ.2.1) + nI (cnN p.1 p.2 (srM (f i)) t) := by rw [ep]; rfl
        have Ip : cIv p.1 p.2 := by rw [ep]; exact srI R.c i
        rw [eG, eC] at nx
        rw [← ep] at T
        have ei : Int32.toNatClampNeg (nI i) = i := nI_clamp (by omega)
        have en : F' 68 (Int32.toNatClampNeg (nI i)) = f i := by rw [ei, E.1 68 rfl]; exact fj i (by omega)
        refine xWP_go 200 [(68, [0, 1, 2, 3, 4, 5, 6])] fun P hP => ?_
        refine br_c (fun z => ?_) (fun _ => ?_)
        · have z : v' 67 1 ≤ nI i := z
          rw [e, nI_leI (by omega) (by omega)] at z
          omega
        refine ⟨vp_in_nI (by omega) (by omega), ?_⟩
        refine br_c (fun z => ?_) (fun z => ?_)
        · have z : 6 ≤ F' 68 (Int32.toNatClampNeg (nI i)) &&& 7 := z
          have em : (F' 68 (Int32.toNatClampNeg (nI i)) &&& 7) - 6 = srM (f i) := by
            rw [en] at z ⊢
            exact (if_pos z).symm
          refine xcall (sx_playE2 (fun k => F' (37 + k)) (fun k => v' (37 + k)) p.1 p.2 T Ip (srM (f i)) _ t u hu eu em (fun G w2 E2 T2 => ?_))
          refine xcall (sx_bitCount _ (stN (eHad p.1 p.2 (srM (f i)) t) (nat (p.1 6 1))) rfl (by have := st128 Ip (b := srM (f i)) (t := t); omega) ?_)
          refine hP _ _ _ _ _ ?_
          rw [nI_1]
          exact nx (upS 37 F' G) (upS 37 v' w2) (by omega) (E.tr hG.up37) T2
        · have z : ¬ 6 ≤ F' 68 (Int32.toNatClampNeg (nI i)) &&& 7 := z
          have em : F' 68 (Int32.toNatClampNeg (nI i)) &&& 7 = srM (f i) := by
            rw [en] at z ⊢
            exact (if_neg z).symm
          refine xcall (sx_playE2 (fun k => F' (37 + k)) (fun k => v' (37 + k)) p.1 p.2 T Ip (srM (f i)) _ t u hu eu em (fun G w2 E2 T2 => ?_))
          refine xcall (sx_bitCount _ (stN (eHad p.1 p.2 (srM (f i)) t) (nat (p.1 6 1))) rfl (by have := st128 Ip (b := srM (f i)) (t := t); omega) ?_)
          refine hP _ _ _ _ _ ?_
          rw [nI_1]
          exact nx (upS 37 F' G) (upS 37 v' w2) (by omega) (E.tr hG.up37) T2
    refine xcall (sp_isMissing (fun k => F (67 + k)) (fun k => v (67 + k)) (fun m0 => ?_) (fun m0 => ?_))
    · have m0 : ¬ v 67 2 = 0 := m0
      rw [e5] at m0
      refine br_c (fun _ => ?_) (fun z => absurd rfl z)
      refine xcall (sp_copy (thF F) (thF v) n0 n1 h0 h1 e0 e1 ?_)
      refine hP _ _ _ _ _ ?_
      exact key m0 nn 0 (upS 37 F (cpF (thF F) n0 n1)) (upS 37 v (cpV (thF v) n0 n1)) (by omega) hG.up37 (R.t.copy R.c h0 h1 e0 e1)
    · have m0 : v 67 2 = 0 := m0
      rw [e5] at m0
      rw [if_pos m0] at ef
      refine br_c (fun z => absurd z (by decide)) (fun _ => ?_)
      refine xcall (sp_errH F v 2 (by decide) ?_)
      exact R.err h _ ef
-- the reference
set_option maxRecDepth 100000 in
theorem MX_series (n : Nat) (σ : xZ) (F v : xS) (R : MR n σ F v) (s t w : Int32) {K : xKo} (h : mK n σ (z_series s t w σ) K) : C_M_series [.ref 0, .int s, .int t, .int w] (xfill F v 0 (wM0 0)) K := by
  have I := R.J
  obtain ⟨hj, h4, h5, -, -⟩ := R.2.2.1.2.1.el
  refine xM_go rfl 200 [(64, [0, 1, 2, 3, 4, 5]), (128, [0, 1, 2, 3, 4, 5])] fun P hP => ?_
  refine xcall (sp_isSheet _ (fun a1 => ?_) (fun a1 => ?_))
  · refine br_c (fun _ => ?_) (fun z => absurd rfl z)
    refine xcall (sp_errM F v (-1000000001) 1 (by decide) (by decide) ?_)
    exact R.err h _ (if_neg fun z => a1 z.1)
  refine br_c (fun z => absurd z (by decide)) (fun _ => ?_)
  refine xcall (sp_areSteps _ (fun a2 => ?_) (fun a2 => ?_))
  · refine br_c (fun _ => ?_) (fun z => absurd rfl z)
    refine xcall (sp_errM F v (-1000000001) 1 (by decide) (by decide) ?_)
    exact R.err h _ (if_neg fun z => a2 z.2.1)
  refine br_c (fun z => absurd z (by decide)) (fun _ => ?_)
  refine xcall (sp_inx _ 1 2 (by decide) (fun a3 => ?_) (fun a3 => ?_))
  · refine br_n (fun z => absurd rfl z) (fun _ => ?_)
    refine xcall (sp_errM F v (-1000000001) 1 (by decide) (by decide) ?_)
    exact R.err h _ (if_neg fun z => a3 z.2.2)
  refine br_n (fun _ => ?_) (fun z => absurd z (by decide))
  have ef : z_series s t w σ = if σ.1.2.2 5 (nat s) = 0 then -1000000002 else if w = 0 then (srZ s t σ).2.2.1 else srW s t σ := if_pos ⟨a1, a2, a3⟩
  obtain ⟨u, hu, eu, -⟩ := nI_ofx t (n := 10) a2 (by decide)
  have hu : u < 10 := by omega
  obtain ⟨k, hk, rfl, ek⟩ := nI_ofx s (n := 4) a1 (by decide)
  have bs : vp_in (nI k) 4 := vin a1
  have k4 : k < 4 := by omega
  have ek2 : nat (nI k) = k := ek
  have ek : Int32.toNatClampNeg (nI k) = k := ek
  obtain ⟨q, hq, eq⟩ := rI4 (k := k) I k4
  have e4 : σ.1.2.2 4 k = nI q := ((h4 k k4).symm.trans (show mRs F v 4 k = F 7 k from rfl)).trans eq
  have e5 : F 6 k = σ.1.2.2 5 k := (show F 6 k = mRs F v 5 k from rfl).trans (h5 k k4)
  obtain ⟨f, ff⟩ : ∃ f : Nat → Int32, f = σ.1.2.2 k := ⟨_, rfl⟩
  have fj : ∀ j, j < 40 → srM (F 8 (40 * k + j)) = srM (f j) := fun j l => by
    have x : mRs F v k j = σ.1.2.2 k j := hj k j k4 l
    rw [mSh k4] at x
    rw [ff, ← x, sr_bare]
  have eZ : srZ (nI k) t σ = srG f t q (σ.1.1, σ.2.1) := by
    show srG (σ.1.2.2 (nat (nI k))) t (nat (σ.1.2.2 4 (nat (nI k)))) (σ.1.1, σ.2.1) = _
    rw [ek2, e4, ff, show nat (nI q) = q from nI_clamp (by omega)]
  have eW : srW (nI k) t σ = srC f t q (σ.1.1, σ.2.1) := by
    show srC (σ.1.2.2 (nat (nI k))) t (nat (σ.1.2.2 4 (nat (nI k)))) (σ.1.1, σ.2.1) = _
    rw [ek2, e4, ff, show nat (nI q) = q from nI_clamp (by omega)]
  rw [eZ, eW, ek2, ← e5] at ef
  refine ⟨bs, ?_⟩
  refine br_n (fun c0 => ?_) (fun c0 => ?_)
  rotate_left
  · have c0 : F 6 (Int32.toNatClampNeg (nI k)) = 0 := c0
    rw [ek] at c0
    rw [if_pos c0] at ef
    refine xcall (sp_errM F v (-1000000002) 2 (by decide) (by decide) ?_)
    exact R.err h _ ef
  have c0 : ¬ F 6 (Int32.toNatClampNeg (nI k)) = 0 := c0
  rw [ek] at c0
  rw [if_neg c0] at ef
  refine xcall (sp_moveAll_1_3 F v fun g g1 g2 => ?_)
  have key : ∀ (d i : Nat) (F' v' : xS), i + d = q → vR v v' → (∀ k, ¬ k = 1 → F' k = va_up F 3 g k) → tM (F' 1) (srG f t i (σ.1.1, σ.2.1)).1 (srG f t i (σ.1.1, σ.2.1)).2 → xWP pg_M_series K 64 [(0, .ref 0), (1, .int (nI k)), (2, .int t), (3, .int w), (4, .int (srC f t i (σ.1.1, σ.2.1))), (5, .int (nI i))] [] (xfill F' v' 0 (wM0 0)) (0, 0) := by
    intro d
    induction d with
    | zero =>
      intro i F' v' hi E G T
      have hi : i = q := hi
      subst hi
      have e7 : F' 7 (Int32.toNatClampNeg (nI k)) = nI i := by rw [ek, G 7 (by decide)]; exact eq
      refine xWP_go 200 [(64, [0, 1, 2, 3, 4, 5]), (128, [0, 1, 2, 3, 4, 5])] fun P hP => ?_
      refine ⟨bs, ?_⟩
      refine br_c (fun _ => ?_) (fun z => ?_)
      · have k128 : xWP pg_M_series K 128 [(0, .ref 0), (1, .int (nI k)), (2, .int t), (3, .int w), (4, .int (srC f t i (σ.1.1, σ.2.1))), (5, .int (nI i))] [] (xfill F' v' 0 (wM0 0)) (0, 0) := by
          refine xWP_go 200 [] fun P hP => ?_
          refine ⟨vin (by decide), ?_⟩
          refine xcall (sp_moveAll_3_1 F' v' fun g' k1 k2 => ?_)
          have E2 : mR r0 F v (va_up F' 1 g') v' := by
            refine ⟨fun x => ?_, fun j hj _ => ?_, E⟩
            · by_cases h1 : x = 1
              · exact Or.inl h1
              by_cases h3 : x = 3
              · exact Or.inr (Or.inl h3)
              rw [show va_up F' 1 g' x = F' x from if_neg h1, G x h1]
              exact Or.inr (Or.inr (Or.inr (Or.inr (if_neg h3))))
            · show g' j = F 1 j
              rw [k1 j hj, G 3 (by decide)]
              exact g1 j hj
          have e8 : F' 1 (Int32.toNatClampNeg 8) = (srG f t i (σ.1.1, σ.2.1)).2.2.1 := by rw [nq8]; exact T.1.2.2.2
          refine br_n (fun y => ?_) (fun y => ?_)
          · rw [if_neg y] at ef
            exact R.go h E2 ef
          · rw [if_pos y] at ef
            exact R.go h E2 (ef.trans e8.symm)
        exact hP _ _ _ _ _ k128
      · have z : ¬ F' 7 (Int32.toNatClampNeg (nI k)) ≤ nI i := z
        rw [e7, nI_leI (by omega) (by omega)] at z
        omega
    | succ d ih =>
      intro i F' v' hi E G T
      have e7 : F' 7 (Int32.toNatClampNeg (nI k)) = nI q := by rw [ek, G 7 (by decide)]; exact eq
      have nx := ih (i + 1)
      obtain ⟨p, ep⟩ : ∃ p, p = srG f t i (σ.1.1, σ.2.1) := ⟨_, rfl⟩
      have eG : srG f t (i + 1) (σ.1.1, σ.2.1) = (clS p.1, ePlay p.1 p.2 (srM (f i)) t) := by rw [ep]; rfl
      have eC : srC f t (i + 1) (σ.1.1, σ.2.1) = srC f t i (σ.1.1, σ.2.1) + nI (cnN p.1 p.2 (srM (f i)) t) := by rw [ep]; rfl
      have Ip : cIv p.1 p.2 := by rw [ep]; exact srI R.c i
      rw [eG, eC] at nx
      rw [← ep] at T
      have e15 : v' 0 15 = 0 := (E.at (j := 15) (by omega)).trans R.tk
      have n40 : Int32.toNatClampNeg ((40 : Int32) * nI k + nI i) = 40 * k + i := by rw [ix40]; exact nI_clamp (by omega)
      have en : srM (F' 8 (Int32.toNatClampNeg ((40 : Int32) * nI k + nI i))) = srM (f i) := by rw [n40, G 8 (by decide)]; exact fj i (by omega)
      refine xWP_go 200 [(64, [0, 1, 2, 3, 4, 5]), (128, [0, 1, 2, 3, 4, 5])] fun P hP => ?_
      refine ⟨bs, ?_⟩
      refine br_c (fun z => ?_) (fun _ => ?_)
      · have z : F' 7 (Int32.toNatClampNeg (nI k)) ≤ nI i := z
        rw [e7, nI_leI (by omega) (by omega)] at z
        omega
      refine ⟨by show vp_in ((40 : Int32) * nI k + nI i) 160; rw [ix40]; exact vp_in_nI (by omega) (by omega), ?_⟩
      refine br_c (fun z => ?_) (fun z => ?_)
      · have z : 6 ≤ F' 8 (Int32.toNatClampNeg ((40 : Int32) * nI k + nI i)) &&& 7 := z
        have em : (F' 8 (Int32.toNatClampNeg ((40 : Int32) * nI k + nI i)) &&& 7) - 6 = srM (f i) := by
          rw [← en]
          exact (if_pos z).symm
        refine xcall (sx_callsE2 F' v' p.1 p.2 T Ip (srM (f i)) _ t u hu eu em e15 (fun F2 v2 G2 E2 T2 => ?_))
        refine xcall (sx_bits _ (stN (eHad p.1 p.2 (srM (f i)) t) (nat (p.1 6 1))) rfl (by have := st128 Ip (b := srM (f i)) (t := t); omega) ?_)
        refine hP _ _ _ _ _ ?_
        rw [nI_1]
        exact nx F2 v2 (by omega) (E.tr E2.2.2) (fun x hx => (G2 x hx).trans (G x hx)) T2
      · have z : ¬ 6 ≤ F' 8 (Int32.toNatClampNeg ((40 : Int32) * nI k + nI i)) &&& 7 := z
        have em : F' 8 (Int32.toNatClampNeg ((40 : Int32) * nI k + nI i)) &&& 7 = srM (f i) := by
          rw [← en]
          exact (if_neg z).symm
        refine xcall (sx_callsE2 F' v' p.1 p.2 T Ip (srM (f i)) _ t u hu eu em e15 (fun F2 v2 G2 E2 T2 => ?_))
        refine xcall (sx_bits _ (stN (eHad p.1 p.2 (srM (f i)) t) (nat (p.1 6 1))) rfl (by have := st128 Ip (b := srM (f i)) (t := t); omega) ?_)
        refine hP _ _ _ _ _ ?_
        rw [nI_1]
        exact nx F2 v2 (by omega) (E.tr E2.2.2) (fun x hx => (G2 x hx).trans (G x hx)) T2
  refine hP _ _ _ _ _ ?_
  exact key q 0 (va_up F 3 g) v (by omega) (fun _ => Or.inr rfl) (fun _ _ => rfl) R.t
