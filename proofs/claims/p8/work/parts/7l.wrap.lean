/-! ===== the plain methods, over a state that both sides tell ===== -/
theorem zIv.g {σ : xZ} {s' : xA} (Z : zIv σ) (h : cIv s'.1 σ.2.1 ∧ out0 s'.1 σ.2.1) (e2 : s'.2.1 = σ.1.2.1) (e : s'.2.2 6 0 = σ.1.2.2 6 0) : zIv (s', σ.2) := ⟨h, fun z => by
  show cIv s'.2.1 σ.2.2 ∧ out0 s'.2.1 σ.2.2
  rw [e2]
  exact Z.2 (by rw [← e]; exact z)⟩
theorem bel_up {f : Nat → Int32} {n N i : Nat} {x : Int32} (h : ∀ j, j < n → below N (f j)) (hx : below N x) : ∀ j, j < n → below N (upd f i x j) := fun j hj => by
  by_cases e : j = i
  · rw [e, pk_us]; exact hx
  · rw [pk_un e]; exact h j hj
theorem bel_up1 {f : Nat → Int32} {n N : Nat} {x : Int32} (h : ∀ j, j < n → below N (f j)) (hx : below N x) : ∀ j, j < n + 1 → below N (upd f n x j) := fun j hj => by
  by_cases e : j = n
  · rw [e, pk_us]; exact hx
  · rw [pk_un e]; exact h j (by omega)
theorem b63 {x : Int32} (h : xin x 64) : below 63 x := by
  obtain ⟨k, hk, e, -⟩ := nI_ofx x (n := 64) h (by decide)
  exact ⟨k, by omega, e⟩
theorem zi_thing {σ : xZ} (Z : zIv σ) (a b : Int32) : zIv (g_thing a b σ.1, σ.2) := by
  unfold g_thing
  by_cases ok : (xin a 12 ∧ xin b 64) ∧ nat (σ.1.1 6 0) < 8
  · rw [if_pos ok]
    obtain ⟨⟨⟨i, c, d, e, f, g⟩, o⟩, -⟩ := id Z
    obtain ⟨b1, n1⟩ := i.1.inc ok.2 (by omega)
    refine Z.g ⟨⟨⟨b1, i.2⟩, fun j hj => ?_, d, e, f, g⟩, o⟩ rfl rfl
    have hj : j < nat (σ.1.1 6 0 + 1) := hj
    rw [n1] at hj
    exact ⟨bel_up1 (fun j hj => (c j hj).1) (b11 ok.1.1) j hj, bel_up1 (fun j hj => (c j hj).2) (b63 ok.1.2) j hj⟩
  · rw [if_neg ok]
    exact Z
theorem zi_shift {σ : xZ} (Z : zIv σ) (i w x : Int32) : zIv (g_shift i w x σ.1, σ.2) := by
  unfold g_shift
  by_cases ok : (xin i (σ.1.1 6 0).toInt ∧ xin w 2) ∧ xin x (if w = 0 then 12 else 64)
  · rw [if_pos ok]
    obtain ⟨⟨⟨a, c, d, e, f, g⟩, o⟩, -⟩ := id Z
    by_cases w0 : w = 0
    · rw [if_pos w0]
      have bx := ok.2
      rw [if_pos w0] at bx
      exact Z.g ⟨⟨a, fun j hj => ⟨bel_up (fun j hj => (c j hj).1) (b11 bx) j hj, (c j hj).2⟩, d, e, f, g⟩, o⟩ rfl rfl
    · rw [if_neg w0]
      have bx := ok.2
      rw [if_neg w0] at bx
      exact Z.g ⟨⟨a, fun j hj => ⟨(c j hj).1, bel_up (fun j hj => (c j hj).2) (b63 bx) j hj⟩, d, e, f, g⟩, o⟩ rfl rfl
  · rw [if_neg ok]
    exact Z
theorem zi_become {σ : xZ} (Z : zIv σ) (c m : Int32) : zIv (g_become c m σ.1, σ.2) := by
  unfold g_become
  by_cases ok : xin c (σ.1.1 6 1).toInt ∧ xin m 70
  · rw [if_pos ok]
    obtain ⟨⟨⟨a, b, d, e, f, g⟩, o⟩, -⟩ := id Z
    exact Z.g ⟨⟨a, b, fun j hj => ⟨bel_up (fun j hj => (d j hj).1) (div10 ok.2) j hj, bel_up (fun j hj => (d j hj).2) (mod10 ok.2) j hj⟩, e, f, g⟩, o⟩ rfl rfl
  · rw [if_neg ok]
    exact Z
theorem zi_feed {σ : xZ} (Z : zIv σ) (w : Int64) (x : Int32) : zIv (g_feed w x σ.1, σ.2) := by
  unfold g_feed
  split
  · exact Z.g Z.1 rfl rfl
  · exact Z
theorem zi_seed {σ : xZ} (Z : zIv σ) (x : Int32) : zIv (g_seed x σ.1, σ.2) := Z.g Z.1 rfl rfl
theorem zi_tell {σ : xZ} (Z : zIv σ) (x : Int32) : zIv (g_tell x σ.1, σ.2) := by
  unfold g_tell
  split
  · exact Z.g Z.1 rfl rfl
  · exact Z
theorem gi_thing (a b : Int32) (s : xA) : (g_thing a b s).2.2 6 0 = s.2.2 6 0 := by
  unfold g_thing
  split <;> rfl
theorem gi_shift (i w x : Int32) (s : xA) : (g_shift i w x s).2.2 6 0 = s.2.2 6 0 := by
  unfold g_shift
  by_cases ok : (xin i (s.1 6 0).toInt ∧ xin w 2) ∧ xin x (if w = 0 then 12 else 64)
  · rw [if_pos ok]
    split <;> rfl
  · rw [if_neg ok]
theorem gi_become (c m : Int32) (s : xA) : (g_become c m s).2.2 6 0 = s.2.2 6 0 := by
  unfold g_become
  split <;> rfl
theorem gi_feed (w : Int64) (x : Int32) (s : xA) : (g_feed w x s).2.2 6 0 = s.2.2 6 0 := by
  unfold g_feed
  split <;> rfl
theorem gi_seed (x : Int32) (s : xA) : (g_seed x s).2.2 6 0 = s.2.2 6 0 := rfl
theorem gi_tell (x : Int32) (s : xA) : (g_tell x s).2.2 6 0 = s.2.2 6 0 := by
  unfold g_tell
  split <;> rfl
theorem gi_voice (c a x : Int32) (s : xA) : (g_voice c a x s).2.2 6 0 = s.2.2 6 0 := by
  unfold g_voice
  split <;> rfl
theorem n46 {s : Int32} (h : xin s 4) : ¬ 6 = nat s := by
  have := nat4 h
  omega
theorem gi_sheet (s b m : Int32) (q : xA) : (g_sheet s b m q).2.2 6 0 = q.2.2 6 0 := by
  unfold g_sheet
  split
  · rename_i ok
    exact congrFun (if_neg (n46 ok.1)) 0
  · rfl
theorem gi_put (s i x : Int32) (q : xA) : (g_put s i x q).2.2 6 0 = q.2.2 6 0 := by
  unfold g_put
  split
  · rename_i ok
    exact congrFun (if_neg (n46 ok.1)) 0
  · rfl
theorem gi_move (s i d j m : Int32) (q : xA) : (g_move s i d j m q).2.2 6 0 = q.2.2 6 0 := by
  unfold g_move
  split
  · rename_i ok
    exact congrFun (if_neg (n46 ok.1.2)) 0
  · rfl
theorem zi_voice {σ : xZ} (Z : zIv σ) (c a x : Int32) : zIv (g_voice c a x σ.1, σ.2) := by
  have e := gi_voice c a x σ.1
  unfold g_voice at e ⊢
  split
  · rename_i ok
    rw [if_pos ok] at e
    exact Z.g Z.1 rfl e
  · exact Z
theorem zi_sheet {σ : xZ} (Z : zIv σ) (s b m : Int32) : zIv (g_sheet s b m σ.1, σ.2) := by
  have e := gi_sheet s b m σ.1
  unfold g_sheet at e ⊢
  split
  · rename_i ok
    rw [if_pos ok] at e
    exact Z.g Z.1 rfl e
  · exact Z
theorem zi_put {σ : xZ} (Z : zIv σ) (s i x : Int32) : zIv (g_put s i x σ.1, σ.2) := by
  have e := gi_put s i x σ.1
  unfold g_put at e ⊢
  split
  · rename_i ok
    rw [if_pos ok] at e
    exact Z.g Z.1 rfl e
  · exact Z
theorem zi_move {σ : xZ} (Z : zIv σ) (s i d j m : Int32) : zIv (g_move s i d j m σ.1, σ.2) := by
  have e := gi_move s i d j m σ.1
  unfold g_move at e ⊢
  split
  · rename_i ok
    rw [if_pos ok] at e
    exact Z.g Z.1 rfl e
  · exact Z
theorem HX_thing (n : Nat) (σ : xZ) (F v : xS) (R : HR n σ F v) (a : Int32) (b : Int32) {K : xKo} (h : hKy n (g_thing a b σ.1, σ.2) (f_thing a b σ.1) K) : C_H_thing [.ref 0, .int a, .int b] (xfill F v 0 wH0) K := by
  refine hs_thing n F v R.J R.2.2.2 a b (fun F' v' S' A' => ?_)
  rw [show f_thing a b (hA F v) = f_thing a b σ.1 from pf_thing R.2.2.1 R.J a b]
  exact h F' v' (HR.st (pi_thing R.1 a b).up (zi_thing R.2.1 a b) (gi_thing a b σ.1) (A'.tr (pg_thing R.2.2.1 R.J a b)) S')
theorem HX_ofThing (n : Nat) (σ : xZ) (F v : xS) (R : HR n σ F v) (i : Int32) (w : Int32) {K : xKo} (h : hKy n σ (f_ofThing i w σ.1) K) : C_H_ofThing [.ref 0, .int i, .int w] (xfill F v 0 wH0) K := by
  refine hs_ofThing n F v R.J R.2.2.2 i w (fun F' v' S' A' => ?_)
  rw [show f_ofThing i w (hA F v) = f_ofThing i w σ.1 from pf_ofThing R.2.2.1 R.J i w]
  exact h F' v' (HR.st (σ := σ) R.1.up R.2.1 rfl (A'.tr R.2.2.1) S')
theorem HX_shift (n : Nat) (σ : xZ) (F v : xS) (R : HR n σ F v) (i : Int32) (w : Int32) (x : Int32) {K : xKo} (h : hKy n (g_shift i w x σ.1, σ.2) (f_shift i w x σ.1) K) : C_H_shift [.ref 0, .int i, .int w, .int x] (xfill F v 0 wH0) K := by
  refine hs_shift n F v R.J R.2.2.2 i w x (fun F' v' S' A' => ?_)
  rw [show f_shift i w x (hA F v) = f_shift i w x σ.1 from pf_shift R.2.2.1 R.J i w x]
  exact h F' v' (HR.st (pi_shift R.1 i w x).up (zi_shift R.2.1 i w x) (gi_shift i w x σ.1) (A'.tr (pg_shift R.2.2.1 R.J i w x)) S')
theorem HX_become (n : Nat) (σ : xZ) (F v : xS) (R : HR n σ F v) (c : Int32) (m : Int32) {K : xKo} (h : hKy n (g_become c m σ.1, σ.2) (f_become c m σ.1) K) : C_H_become [.ref 0, .int c, .int m] (xfill F v 0 wH0) K := by
  refine hs_become n F v R.J R.2.2.2 c m (fun F' v' S' A' => ?_)
  rw [show f_become c m (hA F v) = f_become c m σ.1 from pf_become R.2.2.1 R.J c m]
  exact h F' v' (HR.st (pi_become R.1 c m).up (zi_become R.2.1 c m) (gi_become c m σ.1) (A'.tr (pg_become R.2.2.1 c m)) S')
theorem HX_as (n : Nat) (σ : xZ) (F v : xS) (R : HR n σ F v) (c : Int32) (k : Int32) {K : xKo} (h : hKy n σ (f_as c k σ.1) K) : C_H_as [.ref 0, .int c, .int k] (xfill F v 0 wH0) K := by
  refine hs_as n F v R.J R.2.2.2 c k (fun F' v' S' A' => ?_)
  rw [show f_as c k (hA F v) = f_as c k σ.1 from pf_as R.2.2.1 R.J c k]
  exact h F' v' (HR.st (σ := σ) R.1.up R.2.1 rfl (A'.tr R.2.2.1) S')
theorem HX_feed (n : Nat) (σ : xZ) (F v : xS) (R : HR n σ F v) (w : Int64) (x : Int32) {K : xKo} (h : hKy n (g_feed w x σ.1, σ.2) (f_feed w x σ.1) K) : C_H_feed [.ref 0, .long w, .int x] (xfill F v 0 wH0) K := by
  refine hs_feed n F v R.J R.2.2.2 w x (fun F' v' S' A' => ?_)
  rw [show f_feed w x (hA F v) = f_feed w x σ.1 from pf_feed R.2.2.1 w x]
  exact h F' v' (HR.st (pi_feed R.1 w x).up (zi_feed R.2.1 w x) (gi_feed w x σ.1) (A'.tr (pg_feed R.2.2.1 R.J w x)) S')
theorem HX_seed (n : Nat) (σ : xZ) (F v : xS) (R : HR n σ F v) (x : Int32) {K : xKo} (h : hKy n (g_seed x σ.1, σ.2) (f_seed x σ.1) K) : C_H_seed [.ref 0, .int x] (xfill F v 0 wH0) K := by
  refine hs_seed n F v R.J R.2.2.2 x (fun F' v' S' A' => ?_)
  rw [show f_seed x (hA F v) = f_seed x σ.1 from pf_seed R.2.2.1 x]
  exact h F' v' (HR.st (pi_seed R.1 x).up (zi_seed R.2.1 x) (gi_seed x σ.1) (A'.tr (pg_seed R.2.2.1 x)) S')
theorem HX_trace (n : Nat) (σ : xZ) (F v : xS) (R : HR n σ F v) (i : Int32) {K : xKo} (h : hKy n σ (f_trace i σ.1) K) : C_H_trace [.ref 0, .int i] (xfill F v 0 wH0) K := by
  refine hs_trace n F v R.J R.2.2.2 i (fun F' v' S' A' => ?_)
  rw [show f_trace i (hA F v) = f_trace i σ.1 from pf_trace R.2.2.1 R.J i]
  exact h F' v' (HR.st (σ := σ) R.1.up R.2.1 rfl (A'.tr R.2.2.1) S')
theorem HX_tell (n : Nat) (σ : xZ) (F v : xS) (R : HR n σ F v) (x : Int32) {K : xKo} (h : hKy n (g_tell x σ.1, σ.2) (f_tell x σ.1) K) : C_H_tell [.ref 0, .int x] (xfill F v 0 wH0) K := by
  refine hs_tell n F v R.J R.2.2.2 x (fun F' v' S' A' => ?_)
  rw [show f_tell x (hA F v) = f_tell x σ.1 from pf_tell R.2.2.1 x]
  exact h F' v' (HR.st (pi_tell R.1 x).up (zi_tell R.2.1 x) (gi_tell x σ.1) (A'.tr (pg_tell R.2.2.1 R.J x)) S')
theorem HX_voice (n : Nat) (σ : xZ) (F v : xS) (R : HR n σ F v) (c : Int32) (a : Int32) (x : Int32) {K : xKo} (h : hKy n (g_voice c a x σ.1, σ.2) (f_voice c a x σ.1) K) : C_H_voice [.ref 0, .int c, .int a, .int x] (xfill F v 0 wH0) K := by
  refine hs_voice n F v R.J R.2.2.2 c a x (fun F' v' S' A' => ?_)
  rw [show f_voice c a x (hA F v) = f_voice c a x σ.1 from pf_voice R.2.2.1 R.J c a x]
  exact h F' v' (HR.st (pi_voice R.1 c a x).up (zi_voice R.2.1 c a x) (gi_voice c a x σ.1) (A'.tr (pg_voice R.2.2.1 R.J c a x)) S')
theorem HX_sheet (n : Nat) (σ : xZ) (F v : xS) (R : HR n σ F v) (s : Int32) (b : Int32) (m : Int32) {K : xKo} (h : hKy n (g_sheet s b m σ.1, σ.2) (f_sheet s b m σ.1) K) : C_H_sheet [.ref 0, .int s, .int b, .int m] (xfill F v 0 wH0) K := by
  refine hs_sheet n F v R.J R.2.2.2 s b m (fun F' v' S' A' => ?_)
  rw [show f_sheet s b m (hA F v) = f_sheet s b m σ.1 from pf_sheet s b m]
  exact h F' v' (HR.st (pi_sheet R.1 s b m).up (zi_sheet R.2.1 s b m) (gi_sheet s b m σ.1) (A'.tr (pg_sheet R.2.2.1 s b m)) S')
theorem HX_put (n : Nat) (σ : xZ) (F v : xS) (R : HR n σ F v) (s : Int32) (i : Int32) (x : Int32) {K : xKo} (h : hKy n (g_put s i x σ.1, σ.2) (f_put s i x σ.1) K) : C_H_put [.ref 0, .int s, .int i, .int x] (xfill F v 0 wH0) K := by
  refine hs_put n F v R.J R.2.2.2 s i x (fun F' v' S' A' => ?_)
  rw [show f_put s i x (hA F v) = f_put s i x σ.1 from pf_put R.2.2.1 s i x]
  exact h F' v' (HR.st (pi_put R.1 s i x).up (zi_put R.2.1 s i x) (gi_put s i x σ.1) (A'.tr (pg_put R.2.2.1 s i x)) S')
theorem HX_move (n : Nat) (σ : xZ) (F v : xS) (R : HR n σ F v) (s : Int32) (i : Int32) (d : Int32) (j : Int32) (m : Int32) {K : xKo} (h : hKy n (g_move s i d j m σ.1, σ.2) (f_move s i d j m σ.1) K) : C_H_move [.ref 0, .int s, .int i, .int d, .int j, .int m] (xfill F v 0 wH0) K := by
  refine hs_move n F v R.J R.2.2.2 s i d j m (fun F' v' S' A' => ?_)
  rw [show f_move s i d j m (hA F v) = f_move s i d j m σ.1 from pf_move R.2.2.1 s i d j m]
  exact h F' v' (HR.st (pi_move R.1 s i d j m).up (zi_move R.2.1 s i d j m) (gi_move s i d j m σ.1) (A'.tr (pg_move R.2.2.1 R.J s i d j m)) S')
theorem HX_judge (n : Nat) (σ : xZ) (F v : xS) (R : HR n σ F v) (s : Int32) {K : xKo} (h : ∀ r F' v', HR (n + 1) σ F' v' → K (some (.int r)) (xfill F' v' 0 wH0)) : C_H_judge [.ref 0, .int s] (xfill F v 0 wH0) K := by
  refine hs_judge n F v R.J R.2.2.2 s (fun r F' v' S' A' => ?_)
  exact h r F' v' (HR.st (σ := σ) R.1.up R.2.1 rfl (A'.tr R.2.2.1) S')
theorem MX_thing (n : Nat) (σ : xZ) (F v : xS) (R : MR n σ F v) (a : Int32) (b : Int32) {K : xKo} (h : mKy n (g_thing a b σ.1, σ.2) (f_thing a b σ.1) K) : C_M_thing [.ref 0, .int a, .int b] (xfill F v 0 (wM0 0)) K := by
  refine ms_thing n F v R.J R.2.2.2 a b (fun F' v' S' A' => ?_)
  rw [show f_thing a b (mA F v) = f_thing a b σ.1 from pf_thing R.2.2.1 R.J a b]
  exact h F' v' (MR.st (pi_thing R.1 a b).up (zi_thing R.2.1 a b) (gi_thing a b σ.1) (A'.tr (pg_thing R.2.2.1 R.J a b)) S')
theorem MX_ofThing (n : Nat) (σ : xZ) (F v : xS) (R : MR n σ F v) (i : Int32) (w : Int32) {K : xKo} (h : mKy n σ (f_ofThing i w σ.1) K) : C_M_ofThing [.ref 0, .int i, .int w] (xfill F v 0 (wM0 0)) K := by
  refine ms_ofThing n F v R.J R.2.2.2 i w (fun F' v' S' A' => ?_)
  rw [show f_ofThing i w (mA F v) = f_ofThing i w σ.1 from pf_ofThing R.2.2.1 R.J i w]
  exact h F' v' (MR.st (σ := σ) R.1.up R.2.1 rfl (A'.tr R.2.2.1) S')
theorem MX_shift (n : Nat) (σ : xZ) (F v : xS) (R : MR n σ F v) (i : Int32) (w : Int32) (x : Int32) {K : xKo} (h : mKy n (g_shift i w x σ.1, σ.2) (f_shift i w x σ.1) K) : C_M_shift [.ref 0, .int i, .int w, .int x] (xfill F v 0 (wM0 0)) K := by
  refine ms_shift n F v R.J R.2.2.2 i w x (fun F' v' S' A' => ?_)
  rw [show f_shift i w x (mA F v) = f_shift i w x σ.1 from pf_shift R.2.2.1 R.J i w x]
  exact h F' v' (MR.st (pi_shift R.1 i w x).up (zi_shift R.2.1 i w x) (gi_shift i w x σ.1) (A'.tr (pg_shift R.2.2.1 R.J i w x)) S')
theorem MX_become (n : Nat) (σ : xZ) (F v : xS) (R : MR n σ F v) (c : Int32) (m : Int32) {K : xKo} (h : mKy n (g_become c m σ.1, σ.2) (f_become c m σ.1) K) : C_M_become [.ref 0, .int c, .int m] (xfill F v 0 (wM0 0)) K := by
  refine ms_become n F v R.J R.2.2.2 c m (fun F' v' S' A' => ?_)
  rw [show f_become c m (mA F v) = f_become c m σ.1 from pf_become R.2.2.1 R.J c m]
  exact h F' v' (MR.st (pi_become R.1 c m).up (zi_become R.2.1 c m) (gi_become c m σ.1) (A'.tr (pg_become R.2.2.1 c m)) S')
theorem MX_as (n : Nat) (σ : xZ) (F v : xS) (R : MR n σ F v) (c : Int32) (k : Int32) {K : xKo} (h : mKy n σ (f_as c k σ.1) K) : C_M_as [.ref 0, .int c, .int k] (xfill F v 0 (wM0 0)) K := by
  refine ms_as n F v R.J R.2.2.2 c k (fun F' v' S' A' => ?_)
  rw [show f_as c k (mA F v) = f_as c k σ.1 from pf_as R.2.2.1 R.J c k]
  exact h F' v' (MR.st (σ := σ) R.1.up R.2.1 rfl (A'.tr R.2.2.1) S')
theorem MX_feed (n : Nat) (σ : xZ) (F v : xS) (R : MR n σ F v) (w : Int64) (x : Int32) {K : xKo} (h : mKy n (g_feed w x σ.1, σ.2) (f_feed w x σ.1) K) : C_M_feed [.ref 0, .long w, .int x] (xfill F v 0 (wM0 0)) K := by
  refine ms_feed n F v R.J R.2.2.2 w x (fun F' v' S' A' => ?_)
  rw [show f_feed w x (mA F v) = f_feed w x σ.1 from pf_feed R.2.2.1 w x]
  exact h F' v' (MR.st (pi_feed R.1 w x).up (zi_feed R.2.1 w x) (gi_feed w x σ.1) (A'.tr (pg_feed R.2.2.1 R.J w x)) S')
theorem MX_seed (n : Nat) (σ : xZ) (F v : xS) (R : MR n σ F v) (x : Int32) {K : xKo} (h : mKy n (g_seed x σ.1, σ.2) (f_seed x σ.1) K) : C_M_seed [.ref 0, .int x] (xfill F v 0 (wM0 0)) K := by
  refine ms_seed n F v R.J R.2.2.2 x (fun F' v' S' A' => ?_)
  rw [show f_seed x (mA F v) = f_seed x σ.1 from pf_seed R.2.2.1 x]
  exact h F' v' (MR.st (pi_seed R.1 x).up (zi_seed R.2.1 x) (gi_seed x σ.1) (A'.tr (pg_seed R.2.2.1 x)) S')
theorem MX_trace (n : Nat) (σ : xZ) (F v : xS) (R : MR n σ F v) (i : Int32) {K : xKo} (h : mKy n σ (f_trace i σ.1) K) : C_M_trace [.ref 0, .int i] (xfill F v 0 (wM0 0)) K := by
  refine ms_trace n F v R.J R.2.2.2 i (fun F' v' S' A' => ?_)
  rw [show f_trace i (mA F v) = f_trace i σ.1 from pf_trace R.2.2.1 R.J i]
  exact h F' v' (MR.st (σ := σ) R.1.up R.2.1 rfl (A'.tr R.2.2.1) S')
theorem MX_tell (n : Nat) (σ : xZ) (F v : xS) (R : MR n σ F v) (x : Int32) {K : xKo} (h : mKy n (g_tell x σ.1, σ.2) (f_tell x σ.1) K) : C_M_tell [.ref 0, .int x] (xfill F v 0 (wM0 0)) K := by
  refine ms_tell n F v R.J R.2.2.2 x (fun F' v' S' A' => ?_)
  rw [show f_tell x (mA F v) = f_tell x σ.1 from pf_tell R.2.2.1 x]
  exact h F' v' (MR.st (pi_tell R.1 x).up (zi_tell R.2.1 x) (gi_tell x σ.1) (A'.tr (pg_tell R.2.2.1 R.J x)) S')
theorem MX_voice (n : Nat) (σ : xZ) (F v : xS) (R : MR n σ F v) (c : Int32) (a : Int32) (x : Int32) {K : xKo} (h : mKy n (g_voice c a x σ.1, σ.2) (f_voice c a x σ.1) K) : C_M_voice [.ref 0, .int c, .int a, .int x] (xfill F v 0 (wM0 0)) K := by
  refine ms_voice n F v R.J R.2.2.2 c a x (fun F' v' S' A' => ?_)
  rw [show f_voice c a x (mA F v) = f_voice c a x σ.1 from pf_voice R.2.2.1 R.J c a x]
  exact h F' v' (MR.st (pi_voice R.1 c a x).up (zi_voice R.2.1 c a x) (gi_voice c a x σ.1) (A'.tr (pg_voice R.2.2.1 R.J c a x)) S')
theorem MX_sheet (n : Nat) (σ : xZ) (F v : xS) (R : MR n σ F v) (s : Int32) (b : Int32) (m : Int32) {K : xKo} (h : mKy n (g_sheet s b m σ.1, σ.2) (f_sheet s b m σ.1) K) : C_M_sheet [.ref 0, .int s, .int b, .int m] (xfill F v 0 (wM0 0)) K := by
  refine ms_sheet n F v R.J R.2.2.2 s b m (fun F' v' S' A' => ?_)
  rw [show f_sheet s b m (mA F v) = f_sheet s b m σ.1 from pf_sheet s b m]
  exact h F' v' (MR.st (pi_sheet R.1 s b m).up (zi_sheet R.2.1 s b m) (gi_sheet s b m σ.1) (A'.tr (pg_sheet R.2.2.1 s b m)) S')
theorem MX_put (n : Nat) (σ : xZ) (F v : xS) (R : MR n σ F v) (s : Int32) (i : Int32) (x : Int32) {K : xKo} (h : mKy n (g_put s i x σ.1, σ.2) (f_put s i x σ.1) K) : C_M_put [.ref 0, .int s, .int i, .int x] (xfill F v 0 (wM0 0)) K := by
  refine ms_put n F v R.J R.2.2.2 s i x (fun F' v' S' A' => ?_)
  rw [show f_put s i x (mA F v) = f_put s i x σ.1 from pf_put R.2.2.1 s i x]
  exact h F' v' (MR.st (pi_put R.1 s i x).up (zi_put R.2.1 s i x) (gi_put s i x σ.1) (A'.tr (pg_put R.2.2.1 s i x)) S')
theorem MX_move (n : Nat) (σ : xZ) (F v : xS) (R : MR n σ F v) (s : Int32) (i : Int32) (d : Int32) (j : Int32) (m : Int32) {K : xKo} (h : mKy n (g_move s i d j m σ.1, σ.2) (f_move s i d j m σ.1) K) : C_M_move [.ref 0, .int s, .int i, .int d, .int j, .int m] (xfill F v 0 (wM0 0)) K := by
  refine ms_move n F v R.J R.2.2.2 s i d j m (fun F' v' S' A' => ?_)
  rw [show f_move s i d j m (mA F v) = f_move s i d j m σ.1 from pf_move R.2.2.1 s i d j m]
  exact h F' v' (MR.st (pi_move R.1 s i d j m).up (zi_move R.2.1 s i d j m) (gi_move s i d j m σ.1) (A'.tr (pg_move R.2.2.1 R.J s i d j m)) S')
theorem MX_judge (n : Nat) (σ : xZ) (F v : xS) (R : MR n σ F v) (s : Int32) {K : xKo} (h : ∀ r F' v', MR (n + 1) σ F' v' → K (some (.int r)) (xfill F' v' 0 (wM0 0))) : C_M_judge [.ref 0, .int s] (xfill F v 0 (wM0 0)) K := by
  refine ms_judge n F v R.J R.2.2.2 s (fun r F' v' S' A' => ?_)
  exact h r F' v' (MR.st (σ := σ) R.1.up R.2.1 rfl (A'.tr R.2.2.1) S')
