/-! ===== the reference: voices ===== -/
variable {Ψ : mRw → Prop}
abbrev MW (F v : xS) (q : xTq) : xW := xfill (va_up F 10 q.1) (va_up v 0 (va_up (v 0) 21 (nI q.2))) 0 (wM0 0)
theorem sp_ran (F v : xS) (q : xTq) (b : Int32) (hq : q.2 ≤ 40) {K : xKo} (h : K none (MW F v (nt q b))) : C_M_ran [.ref 0, .int b] (MW F v q) K := by
  refine xM_go rfl 60 [] fun P hP => ?_
  refine br_c (fun a => ?_) (fun a => ?_)
  · have a : nI 40 ≤ nI q.2 := a
    rw [nI_leI (by omega) (by omega)] at a
    unfold nt at h
    rw [if_neg (by omega)] at h
    exact h
  · have a : ¬ nI 40 ≤ nI q.2 := a
    rw [nI_leI (by omega) (by omega)] at a
    unfold nt at h
    rw [if_pos (by omega)] at h
    refine ⟨vp_in_nI (by omega) (by omega), ?_⟩
    have h2 : K none (xfill (va_up F 10 (upd q.1 (nat (nI q.2)) b)) (va_up v 0 (va_up (v 0) 21 (nI q.2 + 1))) 0 (wM0 0)) := by
      rw [show nat (nI q.2) = q.2 from nI_clamp (by omega), nI_1]
      exact h
    exact h2
theorem sp_aboveC (k r : Int32) (e : (if k = 0 then -1 else if k ≤ 3 then 0 else k - 3) = r) {K : xKo} (h : K (some (.int r)) []) : C_M_above [.int k] [] K := sp_above k (by rw [e]; exact h)
set_option maxRecDepth 100000 in
theorem vs0 (l : Nat) (F v : xS) (x : Int32) (q : xTq) (hq : q.2 ≤ 40) {K : xKo} (h : K (some (.int (shV 0 (v 0 23) x q).1)) (MW F v (shV 0 (v 0 23) x q).2)) : G_voice (l + 1) 0 [.ref 0, .int (nI 0), .int x] (MW F v q) K := by
  have eG : G_voice (l + 1) 0 = xM 3 (pg_M_shoutsIn (G_voice l)) := by simp only [G_voice]
  rw [eG]
  refine xM_go rfl 100 [] fun P hP => ?_
  refine br_n (fun z => absurd rfl z) (fun _ => ?_)
  refine xcall (sp_ran F v q 10 hq ?_)
  exact h
set_option maxRecDepth 100000 in
theorem vs1 (l : Nat) (F v : xS) (x : Int32) (q : xTq) (hq : q.2 ≤ 40) {K : xKo} (h : K (some (.int (shV 1 (v 0 23) x q).1)) (MW F v (shV 1 (v 0 23) x q).2)) : G_voice (l + 2) 0 [.ref 0, .int (nI 1), .int x] (MW F v q) K := by
  have eG : G_voice (l + 2) 0 = xM 3 (pg_M_shoutsIn (G_voice (l + 1))) := by simp only [G_voice]
  rw [eG]
  refine xM_go rfl 100 [] fun P hP => ?_
  refine br_n (fun _ => ?_) (fun z => absurd z (by decide))
  refine br_n (fun z => absurd rfl z) (fun _ => ?_)
  refine xcall (sp_ran F v q 20 hq ?_)
  refine xcall (vs0 l F v x (nt q 20) (nt_le hq) ?_)
  exact h
set_option maxRecDepth 100000 in
theorem vs2 (l : Nat) (F v : xS) (x : Int32) (q : xTq) (hq : q.2 ≤ 40) {K : xKo} (h : K (some (.int (shV 2 (v 0 23) x q).1)) (MW F v (shV 2 (v 0 23) x q).2)) : G_voice (l + 2) 0 [.ref 0, .int (nI 2), .int x] (MW F v q) K := by
  have eG : G_voice (l + 2) 0 = xM 3 (pg_M_shoutsIn (G_voice (l + 1))) := by simp only [G_voice]
  rw [eG]
  refine xM_go rfl 100 [] fun P hP => ?_
  refine br_n (fun _ => ?_) (fun z => absurd z (by decide))
  refine br_n (fun _ => ?_) (fun z => absurd z (by decide))
  refine xcall (sp_aboveC (nI 2) (nI 0) (by decide) ?_)
  exact xcall (vs0 l F v x q hq h)
set_option maxRecDepth 100000 in
theorem vs3 (l : Nat) (F v : xS) (x : Int32) (q : xTq) (hq : q.2 ≤ 40) {K : xKo} (h : K (some (.int (shV 3 (v 0 23) x q).1)) (MW F v (shV 3 (v 0 23) x q).2)) : G_voice (l + 2) 0 [.ref 0, .int (nI 3), .int x] (MW F v q) K := by
  have eG : G_voice (l + 2) 0 = xM 3 (pg_M_shoutsIn (G_voice (l + 1))) := by simp only [G_voice]
  rw [eG]
  refine xM_go rfl 100 [] fun P hP => ?_
  refine br_n (fun _ => ?_) (fun z => absurd z (by decide))
  refine br_n (fun _ => ?_) (fun z => absurd z (by decide))
  refine xcall (sp_aboveC (nI 3) (nI 0) (by decide) ?_)
  exact xcall (vs0 l F v x q hq h)
set_option maxRecDepth 100000 in
theorem vs4 (l : Nat) (F v : xS) (x : Int32) (q : xTq) (hq : q.2 ≤ 40) {K : xKo} (h : K (some (.int (shV 4 (v 0 23) x q).1)) (MW F v (shV 4 (v 0 23) x q).2)) : G_voice (l + 3) 0 [.ref 0, .int (nI 4), .int x] (MW F v q) K := by
  have eG : G_voice (l + 3) 0 = xM 3 (pg_M_shoutsIn (G_voice (l + 2))) := by simp only [G_voice]
  rw [eG]
  refine xM_go rfl 100 [] fun P hP => ?_
  refine br_n (fun _ => ?_) (fun z => absurd z (by decide))
  refine br_n (fun _ => ?_) (fun z => absurd z (by decide))
  refine xcall (sp_aboveC (nI 4) (nI 1) (by decide) ?_)
  exact xcall (vs1 l F v x q hq h)
set_option maxRecDepth 100000 in
theorem vs5 (l : Nat) (F v : xS) (x : Int32) (q : xTq) (hq : q.2 ≤ 40) {K : xKo} (h : K (some (.int (shV 5 (v 0 23) x q).1)) (MW F v (shV 5 (v 0 23) x q).2)) : G_voice (l + 3) 0 [.ref 0, .int (nI 5), .int x] (MW F v q) K := by
  have eG : G_voice (l + 3) 0 = xM 3 (pg_M_shoutsIn (G_voice (l + 2))) := by simp only [G_voice]
  rw [eG]
  refine xM_go rfl 100 [] fun P hP => ?_
  refine br_n (fun _ => ?_) (fun z => absurd z (by decide))
  refine br_n (fun _ => ?_) (fun z => absurd z (by decide))
  refine xcall (sp_aboveC (nI 5) (nI 2) (by decide) ?_)
  exact xcall (vs2 l F v x q hq h)
set_option maxRecDepth 100000 in
theorem vs6 (l : Nat) (F v : xS) (x : Int32) (q : xTq) (hq : q.2 ≤ 40) {K : xKo} (h : K (some (.int (shV 6 (v 0 23) x q).1)) (MW F v (shV 6 (v 0 23) x q).2)) : G_voice (l + 3) 0 [.ref 0, .int (nI 6), .int x] (MW F v q) K := by
  have eG : G_voice (l + 3) 0 = xM 3 (pg_M_shoutsIn (G_voice (l + 2))) := by simp only [G_voice]
  rw [eG]
  refine xM_go rfl 100 [] fun P hP => ?_
  refine br_n (fun _ => ?_) (fun z => absurd z (by decide))
  refine br_n (fun _ => ?_) (fun z => absurd z (by decide))
  refine xcall (sp_aboveC (nI 6) (nI 3) (by decide) ?_)
  exact xcall (vs3 l F v x q hq h)
set_option maxRecDepth 100000 in
theorem vsh (l : Nat) (F v : xS) (k : Nat) (hk : k < 7) (x : Int32) (q : xTq) (hq : q.2 ≤ 40) {K : xKo} (h : K (some (.int (shV k (v 0 23) x q).1)) (MW F v (shV k (v 0 23) x q).2)) : G_voice (l + 3) 0 [.ref 0, .int (nI k), .int x] (MW F v q) K := by
  rcases (show k = 0 ∨ k = 1 ∨ k = 2 ∨ k = 3 ∨ k = 4 ∨ k = 5 ∨ k = 6 by omega) with e | e | e | e | e | e | e
  all_goals subst e
  · exact vs0 (l + 2) F v x q hq h
  · exact vs1 (l + 1) F v x q hq h
  · exact vs2 (l + 1) F v x q hq h
  · exact vs3 (l + 1) F v x q hq h
  · exact vs4 l F v x q hq h
  · exact vs5 l F v x q hq h
  · exact vs6 l F v x q hq h
set_option maxRecDepth 100000 in
theorem vt0 (l : Nat) (F v : xS) (x : Int32) (q : xTq) (hq : q.2 ≤ 40) {K : xKo} (h : K (some (.int (toV 0 (v 0 23) (v 0 24) x q).1)) (MW F v (toV 0 (v 0 23) (v 0 24) x q).2)) : G_voice (l + 1) 1 [.ref 0, .int (nI 0), .int x] (MW F v q) K := by
  have eG : G_voice (l + 1) 1 = xM 3 (pg_M_touchesIn (G_voice l)) := by simp only [G_voice]
  rw [eG]
  refine xM_go rfl 100 [] fun P hP => ?_
  refine br_n (fun z => absurd rfl z) (fun _ => ?_)
  refine xcall (sp_ran F v q 12 hq ?_)
  exact h
set_option maxRecDepth 100000 in
theorem vt3 (l : Nat) (F v : xS) (x : Int32) (q : xTq) (hq : q.2 ≤ 40) {K : xKo} (h : K (some (.int (toV 3 (v 0 23) (v 0 24) x q).1)) (MW F v (toV 3 (v 0 23) (v 0 24) x q).2)) : G_voice (l + 2) 1 [.ref 0, .int (nI 3), .int x] (MW F v q) K := by
  have eG : G_voice (l + 2) 1 = xM 3 (pg_M_touchesIn (G_voice (l + 1))) := by simp only [G_voice]
  rw [eG]
  refine xM_go rfl 100 [] fun P hP => ?_
  refine br_n (fun _ => ?_) (fun z => absurd z (by decide))
  refine br_n (fun z => absurd rfl z) (fun _ => ?_)
  refine xcall (sp_ran F v q 40 hq ?_)
  refine xcall (vt0 l F v x (nt q 40) (nt_le hq) ?_)
  exact h
set_option maxRecDepth 100000 in
theorem vt6 (l : Nat) (F v : xS) (x : Int32) (q : xTq) (hq : q.2 ≤ 40) {K : xKo} (h : K (some (.int (toV 6 (v 0 23) (v 0 24) x q).1)) (MW F v (toV 6 (v 0 23) (v 0 24) x q).2)) : G_voice (l + 3) 1 [.ref 0, .int (nI 6), .int x] (MW F v q) K := by
  have eG : G_voice (l + 3) 1 = xM 3 (pg_M_touchesIn (G_voice (l + 2))) := by simp only [G_voice]
  rw [eG]
  refine xM_go rfl 100 [] fun P hP => ?_
  refine br_n (fun _ => ?_) (fun z => absurd z (by decide))
  refine br_n (fun _ => ?_) (fun z => absurd z (by decide))
  refine br_n (fun z => absurd rfl z) (fun _ => ?_)
  refine xcall (sp_ran F v q 70 hq ?_)
  refine xcall (vt3 l F v x (nt q 70) (nt_le hq) ?_)
  exact h
set_option maxRecDepth 100000 in
theorem vt1 (l : Nat) (F v : xS) (x : Int32) (q : xTq) (hq : q.2 ≤ 40) {K : xKo} (h : K (some (.int (toV 1 (v 0 23) (v 0 24) x q).1)) (MW F v (toV 1 (v 0 23) (v 0 24) x q).2)) : G_voice (l + 2) 1 [.ref 0, .int (nI 1), .int x] (MW F v q) K := by
  have eG : G_voice (l + 2) 1 = xM 3 (pg_M_touchesIn (G_voice (l + 1))) := by simp only [G_voice]
  rw [eG]
  refine xM_go rfl 100 [] fun P hP => ?_
  refine br_n (fun _ => ?_) (fun z => absurd z (by decide))
  refine br_n (fun _ => ?_) (fun z => absurd z (by decide))
  refine br_n (fun _ => ?_) (fun z => absurd z (by decide))
  refine xcall (sp_aboveC (nI 1) (nI 0) (by decide) ?_)
  exact xcall (vt0 l F v x q hq h)
set_option maxRecDepth 100000 in
theorem vt2 (l : Nat) (F v : xS) (x : Int32) (q : xTq) (hq : q.2 ≤ 40) {K : xKo} (h : K (some (.int (toV 2 (v 0 23) (v 0 24) x q).1)) (MW F v (toV 2 (v 0 23) (v 0 24) x q).2)) : G_voice (l + 2) 1 [.ref 0, .int (nI 2), .int x] (MW F v q) K := by
  have eG : G_voice (l + 2) 1 = xM 3 (pg_M_touchesIn (G_voice (l + 1))) := by simp only [G_voice]
  rw [eG]
  refine xM_go rfl 100 [] fun P hP => ?_
  refine br_n (fun _ => ?_) (fun z => absurd z (by decide))
  refine br_n (fun _ => ?_) (fun z => absurd z (by decide))
  refine br_n (fun _ => ?_) (fun z => absurd z (by decide))
  refine xcall (sp_aboveC (nI 2) (nI 0) (by decide) ?_)
  exact xcall (vt0 l F v x q hq h)
set_option maxRecDepth 100000 in
theorem vt4 (l : Nat) (F v : xS) (x : Int32) (q : xTq) (hq : q.2 ≤ 40) {K : xKo} (h : K (some (.int (toV 4 (v 0 23) (v 0 24) x q).1)) (MW F v (toV 4 (v 0 23) (v 0 24) x q).2)) : G_voice (l + 3) 1 [.ref 0, .int (nI 4), .int x] (MW F v q) K := by
  have eG : G_voice (l + 3) 1 = xM 3 (pg_M_touchesIn (G_voice (l + 2))) := by simp only [G_voice]
  rw [eG]
  refine xM_go rfl 100 [] fun P hP => ?_
  refine br_n (fun _ => ?_) (fun z => absurd z (by decide))
  refine br_n (fun _ => ?_) (fun z => absurd z (by decide))
  refine br_n (fun _ => ?_) (fun z => absurd z (by decide))
  refine xcall (sp_aboveC (nI 4) (nI 1) (by decide) ?_)
  exact xcall (vt1 l F v x q hq h)
set_option maxRecDepth 100000 in
theorem vt5 (l : Nat) (F v : xS) (x : Int32) (q : xTq) (hq : q.2 ≤ 40) {K : xKo} (h : K (some (.int (toV 5 (v 0 23) (v 0 24) x q).1)) (MW F v (toV 5 (v 0 23) (v 0 24) x q).2)) : G_voice (l + 3) 1 [.ref 0, .int (nI 5), .int x] (MW F v q) K := by
  have eG : G_voice (l + 3) 1 = xM 3 (pg_M_touchesIn (G_voice (l + 2))) := by simp only [G_voice]
  rw [eG]
  refine xM_go rfl 100 [] fun P hP => ?_
  refine br_n (fun _ => ?_) (fun z => absurd z (by decide))
  refine br_n (fun _ => ?_) (fun z => absurd z (by decide))
  refine br_n (fun _ => ?_) (fun z => absurd z (by decide))
  refine xcall (sp_aboveC (nI 5) (nI 2) (by decide) ?_)
  exact xcall (vt2 l F v x q hq h)
set_option maxRecDepth 100000 in
theorem vto (l : Nat) (F v : xS) (k : Nat) (hk : k < 7) (x : Int32) (q : xTq) (hq : q.2 ≤ 40) {K : xKo} (h : K (some (.int (toV k (v 0 23) (v 0 24) x q).1)) (MW F v (toV k (v 0 23) (v 0 24) x q).2)) : G_voice (l + 3) 1 [.ref 0, .int (nI k), .int x] (MW F v q) K := by
  rcases (show k = 0 ∨ k = 1 ∨ k = 2 ∨ k = 3 ∨ k = 4 ∨ k = 5 ∨ k = 6 by omega) with e | e | e | e | e | e | e
  all_goals subst e
  · exact vt0 (l + 2) F v x q hq h
  · exact vt1 (l + 1) F v x q hq h
  · exact vt2 (l + 1) F v x q hq h
  · exact vt3 (l + 1) F v x q hq h
  · exact vt4 l F v x q hq h
  · exact vt5 l F v x q hq h
  · exact vt6 l F v x q hq h
theorem vshz (l : Nat) (F v : xS) (z : Nat) (hz : z < 7) (ez : v 0 22 = nI z) (x : Int32) (q : xTq) (hq : q.2 ≤ 40) {K : xKo} (h : K (some (.int (shV z (v 0 23) x q).1)) (MW F v (shV z (v 0 23) x q).2)) : G_voice (l + 3) 0 [.ref 0, .int (v 0 22), .int x] (MW F v q) K := by
  rw [ez]
  exact vsh l F v z hz x q hq h
theorem vtoz (l : Nat) (F v : xS) (z : Nat) (hz : z < 7) (ez : v 0 22 = nI z) (x : Int32) (q : xTq) (hq : q.2 ≤ 40) {K : xKo} (h : K (some (.int (toV z (v 0 23) (v 0 24) x q).1)) (MW F v (toV z (v 0 23) (v 0 24) x q).2)) : G_voice (l + 3) 1 [.ref 0, .int (v 0 22), .int x] (MW F v q) K := by
  rw [ez]
  exact vto l F v z hz x q hq h
set_option maxRecDepth 100000 in
theorem vr0 (l : Nat) (F v : xS) (z : Nat) (hz : z < 7) (ez : v 0 22 = nI z) (x : Int32) (q : xTq) (hq : q.2 ≤ 40) {K : xKo} (h : K (some (.int (ruV z (v 0 23) (v 0 24) 0 x q).1)) (MW F v (ruV z (v 0 23) (v 0 24) 0 x q).2)) : G_voice (l + 4) 2 [.ref 0, .int (nI 0), .int x] (MW F v q) K := by
  have eG : G_voice (l + 4) 2 = xM 4 (pg_M_runsIn (G_voice (l + 3))) := by simp only [G_voice]
  rw [eG]
  refine xM_go rfl 100 [] fun P hP => ?_
  refine br_n (fun z => absurd rfl z) (fun _ => ?_)
  refine xcall (sp_ran F v q 11 hq ?_)
  refine xcall (vshz l F v z hz ez x (nt q 11) (nt_le hq) ?_)
  exact h
set_option maxRecDepth 100000 in
theorem vr2 (l : Nat) (F v : xS) (z : Nat) (hz : z < 7) (ez : v 0 22 = nI z) (x : Int32) (q : xTq) (hq : q.2 ≤ 40) {K : xKo} (h : K (some (.int (ruV z (v 0 23) (v 0 24) 2 x q).1)) (MW F v (ruV z (v 0 23) (v 0 24) 2 x q).2)) : G_voice (l + 5) 2 [.ref 0, .int (nI 2), .int x] (MW F v q) K := by
  have eG : G_voice (l + 5) 2 = xM 4 (pg_M_runsIn (G_voice (l + 4))) := by simp only [G_voice]
  rw [eG]
  refine xM_go rfl 100 [] fun P hP => ?_
  refine br_n (fun _ => ?_) (fun z => absurd z (by decide))
  refine br_n (fun z => absurd rfl z) (fun _ => ?_)
  refine xcall (sp_ran F v q 30 hq ?_)
  refine xcall (vr0 l F v z hz ez x (nt q 30) (nt_le hq) ?_)
  refine xcall (vtoz (l + 1) F v z hz ez 1 _ (ruV_le (nt_le hq)) ?_)
  exact h
set_option maxRecDepth 100000 in
theorem vr5 (l : Nat) (F v : xS) (z : Nat) (hz : z < 7) (ez : v 0 22 = nI z) (x : Int32) (q : xTq) (hq : q.2 ≤ 40) {K : xKo} (h : K (some (.int (ruV z (v 0 23) (v 0 24) 5 x q).1)) (MW F v (ruV z (v 0 23) (v 0 24) 5 x q).2)) : G_voice (l + 6) 2 [.ref 0, .int (nI 5), .int x] (MW F v q) K := by
  have eG : G_voice (l + 6) 2 = xM 4 (pg_M_runsIn (G_voice (l + 5))) := by simp only [G_voice]
  rw [eG]
  refine xM_go rfl 100 [] fun P hP => ?_
  refine br_n (fun _ => ?_) (fun z => absurd z (by decide))
  refine br_n (fun _ => ?_) (fun z => absurd z (by decide))
  refine br_n (fun z => absurd rfl z) (fun _ => ?_)
  refine xcall (sp_ran F v q 60 hq ?_)
  refine xcall (vr2 l F v z hz ez (x + 1) (nt q 60) (nt_le hq) ?_)
  exact h
set_option maxRecDepth 100000 in
theorem vr1 (l : Nat) (F v : xS) (z : Nat) (hz : z < 7) (ez : v 0 22 = nI z) (x : Int32) (q : xTq) (hq : q.2 ≤ 40) {K : xKo} (h : K (some (.int (ruV z (v 0 23) (v 0 24) 1 x q).1)) (MW F v (ruV z (v 0 23) (v 0 24) 1 x q).2)) : G_voice (l + 5) 2 [.ref 0, .int (nI 1), .int x] (MW F v q) K := by
  have eG : G_voice (l + 5) 2 = xM 4 (pg_M_runsIn (G_voice (l + 4))) := by simp only [G_voice]
  rw [eG]
  refine xM_go rfl 100 [] fun P hP => ?_
  refine br_n (fun _ => ?_) (fun z => absurd z (by decide))
  refine br_n (fun _ => ?_) (fun z => absurd z (by decide))
  refine br_n (fun _ => ?_) (fun z => absurd z (by decide))
  refine xcall (sp_aboveC (nI 1) (nI 0) (by decide) ?_)
  exact xcall (vr0 l F v z hz ez x q hq h)
set_option maxRecDepth 100000 in
theorem vr3 (l : Nat) (F v : xS) (z : Nat) (hz : z < 7) (ez : v 0 22 = nI z) (x : Int32) (q : xTq) (hq : q.2 ≤ 40) {K : xKo} (h : K (some (.int (ruV z (v 0 23) (v 0 24) 3 x q).1)) (MW F v (ruV z (v 0 23) (v 0 24) 3 x q).2)) : G_voice (l + 5) 2 [.ref 0, .int (nI 3), .int x] (MW F v q) K := by
  have eG : G_voice (l + 5) 2 = xM 4 (pg_M_runsIn (G_voice (l + 4))) := by simp only [G_voice]
  rw [eG]
  refine xM_go rfl 100 [] fun P hP => ?_
  refine br_n (fun _ => ?_) (fun z => absurd z (by decide))
  refine br_n (fun _ => ?_) (fun z => absurd z (by decide))
  refine br_n (fun _ => ?_) (fun z => absurd z (by decide))
  refine xcall (sp_aboveC (nI 3) (nI 0) (by decide) ?_)
  exact xcall (vr0 l F v z hz ez x q hq h)
set_option maxRecDepth 100000 in
theorem vr4 (l : Nat) (F v : xS) (z : Nat) (hz : z < 7) (ez : v 0 22 = nI z) (x : Int32) (q : xTq) (hq : q.2 ≤ 40) {K : xKo} (h : K (some (.int (ruV z (v 0 23) (v 0 24) 4 x q).1)) (MW F v (ruV z (v 0 23) (v 0 24) 4 x q).2)) : G_voice (l + 6) 2 [.ref 0, .int (nI 4), .int x] (MW F v q) K := by
  have eG : G_voice (l + 6) 2 = xM 4 (pg_M_runsIn (G_voice (l + 5))) := by simp only [G_voice]
  rw [eG]
  refine xM_go rfl 100 [] fun P hP => ?_
  refine br_n (fun _ => ?_) (fun z => absurd z (by decide))
  refine br_n (fun _ => ?_) (fun z => absurd z (by decide))
  refine br_n (fun _ => ?_) (fun z => absurd z (by decide))
  refine xcall (sp_aboveC (nI 4) (nI 1) (by decide) ?_)
  exact xcall (vr1 l F v z hz ez x q hq h)
set_option maxRecDepth 100000 in
theorem vr6 (l : Nat) (F v : xS) (z : Nat) (hz : z < 7) (ez : v 0 22 = nI z) (x : Int32) (q : xTq) (hq : q.2 ≤ 40) {K : xKo} (h : K (some (.int (ruV z (v 0 23) (v 0 24) 6 x q).1)) (MW F v (ruV z (v 0 23) (v 0 24) 6 x q).2)) : G_voice (l + 6) 2 [.ref 0, .int (nI 6), .int x] (MW F v q) K := by
  have eG : G_voice (l + 6) 2 = xM 4 (pg_M_runsIn (G_voice (l + 5))) := by simp only [G_voice]
  rw [eG]
  refine xM_go rfl 100 [] fun P hP => ?_
  refine br_n (fun _ => ?_) (fun z => absurd z (by decide))
  refine br_n (fun _ => ?_) (fun z => absurd z (by decide))
  refine br_n (fun _ => ?_) (fun z => absurd z (by decide))
  refine xcall (sp_aboveC (nI 6) (nI 3) (by decide) ?_)
  exact xcall (vr3 l F v z hz ez x q hq h)
set_option maxRecDepth 100000 in
theorem vru (l : Nat) (F v : xS) (z : Nat) (hz : z < 7) (ez : v 0 22 = nI z) (k : Nat) (hk : k < 7) (x : Int32) (q : xTq) (hq : q.2 ≤ 40) {K : xKo} (h : K (some (.int (ruV z (v 0 23) (v 0 24) k x q).1)) (MW F v (ruV z (v 0 23) (v 0 24) k x q).2)) : G_voice (l + 6) 2 [.ref 0, .int (nI k), .int x] (MW F v q) K := by
  rcases (show k = 0 ∨ k = 1 ∨ k = 2 ∨ k = 3 ∨ k = 4 ∨ k = 5 ∨ k = 6 by omega) with e | e | e | e | e | e | e
  all_goals subst e
  · exact vr0 (l + 2) F v z hz ez x q hq h
  · exact vr1 (l + 1) F v z hz ez x q hq h
  · exact vr2 (l + 1) F v z hz ez x q hq h
  · exact vr3 (l + 1) F v z hz ez x q hq h
  · exact vr4 l F v z hz ez x q hq h
  · exact vr5 l F v z hz ez x q hq h
  · exact vr6 l F v z hz ez x q hq h
theorem vruz (l : Nat) (F v : xS) (z : Nat) (hz : z < 7) (ez : v 0 22 = nI z) (x : Int32) (q : xTq) (hq : q.2 ≤ 40) {K : xKo} (h : K (some (.int (ruV z (v 0 23) (v 0 24) z x q).1)) (MW F v (ruV z (v 0 23) (v 0 24) z x q).2)) : G_voice (l + 6) 2 [.ref 0, .int (v 0 22), .int x] (MW F v q) K := by
  have h2 : G_voice (l + 6) 2 [.ref 0, .int (nI z), .int x] (MW F v q) K := vru l F v z hz ez z hz x q hq h
  rw [← ez] at h2
  exact h2
set_option maxRecDepth 100000 in
theorem ve0 (l : Nat) (F v : xS) (z : Nat) (hz : z < 7) (ez : v 0 22 = nI z) (x : Int32) (q : xTq) (hq : q.2 ≤ 40) {K : xKo} (h : K (some (.int (teV z (v 0 23) (v 0 24) 0 x q).1)) (MW F v (teV z (v 0 23) (v 0 24) 0 x q).2)) : G_voice (l + 7) 3 [.ref 0, .int (nI 0), .int x] (MW F v q) K := by
  have eG : G_voice (l + 7) 3 = xM 4 (pg_M_tellsIn (G_voice (l + 6))) := by simp only [G_voice]
  rw [eG]
  refine xM_go rfl 100 [] fun P hP => ?_
  refine br_n (fun z => absurd rfl z) (fun _ => ?_)
  refine xcall (sp_ran F v q 13 hq ?_)
  refine xcall (vruz l F v z hz ez x (nt q 13) (nt_le hq) ?_)
  refine xcall (vtoz (l + 3) F v z hz ez x _ (ruV_le (nt_le hq)) ?_)
  exact h
set_option maxRecDepth 100000 in
theorem ve1 (l : Nat) (F v : xS) (z : Nat) (hz : z < 7) (ez : v 0 22 = nI z) (x : Int32) (q : xTq) (hq : q.2 ≤ 40) {K : xKo} (h : K (some (.int (teV z (v 0 23) (v 0 24) 1 x q).1)) (MW F v (teV z (v 0 23) (v 0 24) 1 x q).2)) : G_voice (l + 8) 3 [.ref 0, .int (nI 1), .int x] (MW F v q) K := by
  have eG : G_voice (l + 8) 3 = xM 4 (pg_M_tellsIn (G_voice (l + 7))) := by simp only [G_voice]
  rw [eG]
  refine xM_go rfl 100 [] fun P hP => ?_
  refine br_n (fun _ => ?_) (fun z => absurd z (by decide))
  refine br_n (fun _ => ?_) (fun z => absurd z (by decide))
  refine br_n (fun _ => ?_) (fun z => absurd z (by decide))
  refine xcall (sp_aboveC (nI 1) (nI 0) (by decide) ?_)
  exact xcall (ve0 l F v z hz ez x q hq h)
set_option maxRecDepth 100000 in
theorem ve2 (l : Nat) (F v : xS) (z : Nat) (hz : z < 7) (ez : v 0 22 = nI z) (x : Int32) (q : xTq) (hq : q.2 ≤ 40) {K : xKo} (h : K (some (.int (teV z (v 0 23) (v 0 24) 2 x q).1)) (MW F v (teV z (v 0 23) (v 0 24) 2 x q).2)) : G_voice (l + 8) 3 [.ref 0, .int (nI 2), .int x] (MW F v q) K := by
  have eG : G_voice (l + 8) 3 = xM 4 (pg_M_tellsIn (G_voice (l + 7))) := by simp only [G_voice]
  rw [eG]
  refine xM_go rfl 100 [] fun P hP => ?_
  refine br_n (fun _ => ?_) (fun z => absurd z (by decide))
  refine br_n (fun _ => ?_) (fun z => absurd z (by decide))
  refine br_n (fun _ => ?_) (fun z => absurd z (by decide))
  refine xcall (sp_aboveC (nI 2) (nI 0) (by decide) ?_)
  exact xcall (ve0 l F v z hz ez x q hq h)
set_option maxRecDepth 100000 in
theorem ve3 (l : Nat) (F v : xS) (z : Nat) (hz : z < 7) (ez : v 0 22 = nI z) (x : Int32) (q : xTq) (hq : q.2 ≤ 40) {K : xKo} (h : K (some (.int (teV z (v 0 23) (v 0 24) 3 x q).1)) (MW F v (teV z (v 0 23) (v 0 24) 3 x q).2)) : G_voice (l + 8) 3 [.ref 0, .int (nI 3), .int x] (MW F v q) K := by
  have eG : G_voice (l + 8) 3 = xM 4 (pg_M_tellsIn (G_voice (l + 7))) := by simp only [G_voice]
  rw [eG]
  refine xM_go rfl 100 [] fun P hP => ?_
  refine br_n (fun _ => ?_) (fun z => absurd z (by decide))
  refine br_n (fun _ => ?_) (fun z => absurd z (by decide))
  refine br_n (fun _ => ?_) (fun z => absurd z (by decide))
  refine xcall (sp_aboveC (nI 3) (nI 0) (by decide) ?_)
  exact xcall (ve0 l F v z hz ez x q hq h)
set_option maxRecDepth 100000 in
theorem ve4 (l : Nat) (F v : xS) (z : Nat) (hz : z < 7) (ez : v 0 22 = nI z) (x : Int32) (q : xTq) (hq : q.2 ≤ 40) {K : xKo} (h : K (some (.int (teV z (v 0 23) (v 0 24) 4 x q).1)) (MW F v (teV z (v 0 23) (v 0 24) 4 x q).2)) : G_voice (l + 9) 3 [.ref 0, .int (nI 4), .int x] (MW F v q) K := by
  have eG : G_voice (l + 9) 3 = xM 4 (pg_M_tellsIn (G_voice (l + 8))) := by simp only [G_voice]
  rw [eG]
  refine xM_go rfl 100 [] fun P hP => ?_
  refine br_n (fun _ => ?_) (fun z => absurd z (by decide))
  refine br_n (fun z => absurd rfl z) (fun _ => ?_)
  refine xcall (sp_ran F v q 50 hq ?_)
  refine xcall (ve1 l F v z hz ez x (nt q 50) (nt_le hq) ?_)
  refine xcall (vshz (l + 5) F v z hz ez 2 _ (teV_le (k := 1) (nt_le hq)) ?_)
  exact h
set_option maxRecDepth 100000 in
theorem ve5 (l : Nat) (F v : xS) (z : Nat) (hz : z < 7) (ez : v 0 22 = nI z) (x : Int32) (q : xTq) (hq : q.2 ≤ 40) {K : xKo} (h : K (some (.int (teV z (v 0 23) (v 0 24) 5 x q).1)) (MW F v (teV z (v 0 23) (v 0 24) 5 x q).2)) : G_voice (l + 9) 3 [.ref 0, .int (nI 5), .int x] (MW F v q) K := by
  have eG : G_voice (l + 9) 3 = xM 4 (pg_M_tellsIn (G_voice (l + 8))) := by simp only [G_voice]
  rw [eG]
  refine xM_go rfl 100 [] fun P hP => ?_
  refine br_n (fun _ => ?_) (fun z => absurd z (by decide))
  refine br_n (fun _ => ?_) (fun z => absurd z (by decide))
  refine br_n (fun _ => ?_) (fun z => absurd z (by decide))
  refine xcall (sp_aboveC (nI 5) (nI 2) (by decide) ?_)
  exact xcall (ve2 l F v z hz ez x q hq h)
set_option maxRecDepth 100000 in
theorem ve6 (l : Nat) (F v : xS) (z : Nat) (hz : z < 7) (ez : v 0 22 = nI z) (x : Int32) (q : xTq) (hq : q.2 ≤ 40) {K : xKo} (h : K (some (.int (teV z (v 0 23) (v 0 24) 6 x q).1)) (MW F v (teV z (v 0 23) (v 0 24) 6 x q).2)) : G_voice (l + 9) 3 [.ref 0, .int (nI 6), .int x] (MW F v q) K := by
  have eG : G_voice (l + 9) 3 = xM 4 (pg_M_tellsIn (G_voice (l + 8))) := by simp only [G_voice]
  rw [eG]
  refine xM_go rfl 100 [] fun P hP => ?_
  refine br_n (fun _ => ?_) (fun z => absurd z (by decide))
  refine br_n (fun _ => ?_) (fun z => absurd z (by decide))
  refine br_n (fun z => absurd rfl z) (fun _ => ?_)
  refine xcall (sp_ran F v q 71 hq ?_)
  refine xcall (vruz (l + 2) F v z hz ez x (nt q 71) (nt_le hq) ?_)
  refine xcall (ve3 l F v z hz ez x _ (ruV_le (nt_le hq)) ?_)
  exact h
set_option maxRecDepth 100000 in
theorem vte (l : Nat) (F v : xS) (z : Nat) (hz : z < 7) (ez : v 0 22 = nI z) (k : Nat) (hk : k < 7) (x : Int32) (q : xTq) (hq : q.2 ≤ 40) {K : xKo} (h : K (some (.int (teV z (v 0 23) (v 0 24) k x q).1)) (MW F v (teV z (v 0 23) (v 0 24) k x q).2)) : G_voice (l + 9) 3 [.ref 0, .int (nI k), .int x] (MW F v q) K := by
  rcases (show k = 0 ∨ k = 1 ∨ k = 2 ∨ k = 3 ∨ k = 4 ∨ k = 5 ∨ k = 6 by omega) with e | e | e | e | e | e | e
  all_goals subst e
  · exact ve0 (l + 2) F v z hz ez x q hq h
  · exact ve1 (l + 1) F v z hz ez x q hq h
  · exact ve2 (l + 1) F v z hz ez x q hq h
  · exact ve3 (l + 1) F v z hz ez x q hq h
  · exact ve4 l F v z hz ez x q hq h
  · exact ve5 l F v z hz ez x q hq h
  · exact ve6 l F v z hz ez x q hq h
theorem vtez (l : Nat) (F v : xS) (z : Nat) (hz : z < 7) (ez : v 0 22 = nI z) (x : Int32) (q : xTq) (hq : q.2 ≤ 40) {K : xKo} (h : K (some (.int (teV z (v 0 23) (v 0 24) z x q).1)) (MW F v (teV z (v 0 23) (v 0 24) z x q).2)) : G_voice (l + 9) 3 [.ref 0, .int (v 0 22), .int x] (MW F v q) K := by
  have h2 : G_voice (l + 9) 3 [.ref 0, .int (nI z), .int x] (MW F v q) K := vte l F v z hz ez z hz x q hq h
  rw [← ez] at h2
  exact h2
set_option maxRecDepth 100000 in
theorem ms_voice (n : Nat) (F v : xS) (I : aIv n (mA F v)) (S : mS Ψ F v) (c a x : Int32) {K : xKo} (h : mTo Ψ F v (g_voice c a x) (f_voice c a x) K) : C_M_voice [.ref 0, .int c, .int a, .int x] (xfill F v 0 (wM0 0)) K := by
  refine xM_go rfl 100 [] fun P hP => ?_
  refine xcall (sp_isChildM F v _ I.1.1.2.1 (fun a1 => ?_) (fun a1 => ?_))
  · refine br_c (fun _ => ?_) (fun z => absurd rfl z)
    refine xcall (sp_errM F v (-1000000001) 1 (by decide) (by decide) ?_)
    exact h.err S _ (if_neg fun z => a1 z.1) (if_neg fun z => a1 z.1)
  refine br_c (fun z => absurd z (by decide)) (fun _ => ?_)
  refine xcall (sp_inx _ 3 4 (by decide) (fun a2 => ?_) (fun a2 => ?_))
  · refine br_n (fun z => absurd rfl z) (fun _ => ?_)
    refine xcall (sp_errM F v (-1000000001) 1 (by decide) (by decide) ?_)
    exact h.err S _ (if_neg fun z => a2 z.2) (if_neg fun z => a2 z.2)
  refine br_n (fun _ => ?_) (fun z => absurd z (by decide))
  obtain ⟨k, hk, rfl, ek, lt⟩ := xin_ex I.1.1.2.1 (by omega) a1
  obtain ⟨z, hz6, ez⟩ : below 6 (F 1 (25 + 5 * k + 0)) := I.1.2 k lt
  have hz : z < 7 := by omega
  have nz : nat (F 1 (25 + 5 * k + 0)) = z := by rw [ez]; exact nI_clamp (by omega)
  have e0 : F 1 (Int32.toNatClampNeg (25 + 5 * nI k + 0)) = nI z := by
    rw [show Int32.toNatClampNeg (25 + 5 * nI k + 0) = 25 + 5 * k + 0 from nc5 (w := 0) (by omega) (by omega)]
    exact ez
  have e1 : F 1 (Int32.toNatClampNeg (25 + 5 * nI k + 1)) = F 1 (25 + 5 * k + 1) := by
    rw [show Int32.toNatClampNeg (25 + 5 * nI k + 1) = 25 + 5 * k + 1 from nc5 (w := 1) (by omega) (by omega)]
  refine xcall (sp_its F (va_up v 0 (va_up (v 0) 21 0)) (nI k) 0 (vc5 hk (w := 0) (by omega)) ?_)
  refine xcall (sp_its F (va_up v 0 (va_up (va_up (va_up (v 0) 21 0) 22 (F 1 (Int32.toNatClampNeg (25 + 5 * nI k + 0)))) 23 (nI k))) (nI k) 1 (vc5 hk (w := 1) (by omega)) ?_)
  obtain ⟨M, eM⟩ : ∃ M, M = F 1 (25 + 5 * k + 1) := ⟨_, rfl⟩
  obtain ⟨v1, ev1⟩ : ∃ v1 : xS, v1 = va_up v 0 (va_up (va_up (va_up (va_up (v 0) 21 0) 22 (F 1 (Int32.toNatClampNeg (25 + 5 * nI k + 0)))) 23 (nI k)) 24 (F 1 (Int32.toNatClampNeg (25 + 5 * nI k + 1)))) := ⟨_, rfl⟩
  have z1 : v1 0 22 = nI z := by rw [ev1]; exact e0
  have n1 : v1 0 23 = nI k := by rw [ev1]; rfl
  have m1 : v1 0 24 = M := by rw [ev1, eM]; exact e1
  have o : ((F 10, 0) : xTq).2 ≤ 40 := Nat.zero_le 40
  have hV : ∀ V : Int32 × xTq, V = voV z (v1 0 23) (v1 0 24) a x (F 10) → K (some (.int V.1)) (MW F v1 V.2) := by
    intro V e
    rw [n1, m1, eM] at e
    refine h.ok (F' := va_up F 10 V.2.1) (v' := va_up v1 0 (va_up (v1 0) 21 (nI V.2.2))) ?_ ?_ ?_
    · have w : ∀ j, ¬ 21 ≤ j → va_up v1 0 (va_up (v1 0) 21 (nI V.2.2)) 0 j = v 0 j := by
        intro j hj
        rw [ev1]
        exact (if_neg (by omega)).trans ((if_neg (by omega)).trans ((if_neg (by omega)).trans ((if_neg (by omega)).trans (if_neg (by omega)))))
      refine ⟨S.1, S.2.1, ?_, ?_, S.2.2.2.2⟩
      · rw [w 4 (by omega), w 5 (by omega)]; exact S.2.2.1
      · rw [w 15 (by omega)]; exact S.2.2.2.1
    · have eg : g_voice (nI k) a x (mA F v) = ((mA F v).1, (mA F v).2.1, va_up (va_up (mA F v).2.2 7 V.2.1) 6 (upd ((mA F v).2.2 6) 1 (nI V.2.2))) := by
        rw [e, ← nz]
        refine (if_pos ⟨a1, a2⟩).trans ?_
        rw [ek]
        rfl
      rw [eg]
      have e5 : va_up v1 0 (va_up (v1 0) 21 (nI V.2.2)) 0 5 = v 0 5 := by rw [ev1]; rfl
      exact ⟨sAgr.rf, ⟨⟨fun _ _ => rfl, fun _ _ => rfl, fun _ _ => rfl, fun _ _ => rfl⟩, ⟨⟨rfl, rfl, rfl, rfl⟩, rfl, rfl, rfl, rfl⟩, ⟨e5, rfl⟩, fun _ _ => rfl⟩, fun _ => sAgr.rf⟩
    · rw [e, ← nz]
      refine (if_pos ⟨a1, a2⟩).trans ?_
      rw [ek]
      rfl
  obtain ⟨j, hj, rfl, -⟩ := nI_ofx a (n := 4) a2 (by decide)
  refine ⟨fun c0 => ?_, fun c0 => ?_⟩
  · have hv := hV _ rfl
    rw [show voV z (v1 0 23) (v1 0 24) (nI j) x (F 10) = shV z (v1 0 23) x (F 10, 0) from if_pos c0] at hv
    have q := fun (K2 : xKo) g => vshz 9 F v1 z hz z1 x (F 10, 0) o (K := K2) g
    rw [ev1] at q hv
    refine xcall (q _ ?_)
    exact hv
  refine ⟨fun c1 => ?_, fun c1 => ?_⟩
  · have hv := hV _ rfl
    rw [show voV z (v1 0 23) (v1 0 24) (nI j) x (F 10) = ruV z (v1 0 23) (v1 0 24) z x (F 10, 0) from (if_neg c0).trans (if_pos c1)] at hv
    have q := fun (K2 : xKo) g => vruz 6 F v1 z hz z1 x (F 10, 0) o (K := K2) g
    rw [ev1] at q hv
    refine xcall (q _ ?_)
    exact hv
  refine ⟨fun c2 => ?_, fun c2 => ?_⟩
  · have hv := hV _ rfl
    rw [show voV z (v1 0 23) (v1 0 24) (nI j) x (F 10) = toV z (v1 0 23) (v1 0 24) x (F 10, 0) from (if_neg c0).trans ((if_neg c1).trans (if_pos c2))] at hv
    have q := fun (K2 : xKo) g => vtoz 9 F v1 z hz z1 x (F 10, 0) o (K := K2) g
    rw [ev1] at q hv
    refine xcall (q _ ?_)
    exact hv
  · have hv := hV _ rfl
    rw [show voV z (v1 0 23) (v1 0 24) (nI j) x (F 10) = teV z (v1 0 23) (v1 0 24) z x (F 10, 0) from (if_neg c0).trans ((if_neg c1).trans (if_neg c2))] at hv
    have q := fun (K2 : xKo) g => vtez 3 F v1 z hz z1 x (F 10, 0) o (K := K2) g
    rw [ev1] at q hv
    refine xcall (q _ ?_)
    exact hv
