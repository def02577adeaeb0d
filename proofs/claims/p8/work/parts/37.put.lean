/-! ===== the tried side: numbers put into sheets ===== -/
variable {Φ : hRw → Prop}
set_option maxRecDepth 100000 in
theorem hs_put (n : Nat) (F v : xS) (I : aIv n (hA F v)) (S : hS Φ F v) (s i x : Int32) {K : xKo} (h : hTo Φ F v (g_put s i x) (f_put s i x) K) : C_H_put [.ref 0, .int s, .int i, .int x] (xfill F v 0 wH0) K := by
  refine xM_go rfl 100 [] fun P hP => ?_
  refine xcall (sp_isBelow _ _ (fun a1 => ?_) (fun a1 => ?_))
  · refine br_n (fun z => absurd rfl z) (fun _ => ?_)
    refine xcall (sp_errH F v 1 (by decide) ?_)
    exact h.err S _ (if_neg fun z => a1 z.1) (if_neg a1)
  refine br_n (fun _ => ?_) (fun z => absurd z (by decide))
  refine ⟨vin a1, ⟨fun es0 => ?_, ⟨fun es0 => ?_, ⟨fun es0 => ?_, ⟨fun es0 => ?_, trivial⟩⟩⟩⟩⟩
  · have es : nat s = 0 := by rw [es0]; decide
    have b4 : below 40 (v 61 1) := I.2.1.2.1.1
    refine xcall (sp_isMissing (fun k => F (61 + k)) (fun k => v (61 + k)) (fun m0 => ?_) (fun m0 => ?_))
    · have m0 : ¬ v 61 2 = 0 := m0
      refine br_c (fun _ => ?_) (fun z => absurd rfl z)
      refine xcall (sp_isBelow _ _ (fun a2 => ?_) (fun a2 => ?_))
      · refine br_n (fun z => absurd rfl z) (fun _ => ?_)
        refine xcall (sp_errH F v 1 (by decide) ?_)
        refine h.err S _ (if_neg fun z => a2 ?_) ((if_pos a1).trans ((if_neg ?_).trans (if_neg fun z => a2 ?_)))
        · have z := z.2.2
          rw [es] at z
          exact z
        · rw [es]
          exact m0
        · rw [es] at z
          exact z
      · have a2 : xin i (v 61 1).toInt := a2
        refine br_n (fun _ => ?_) (fun z => absurd z (by decide))
        refine xcall (sp_write (fun k => F (61 + k)) (fun k => v (61 + k)) i x (vinB b4 a2 (Nat.le_refl _) (by omega)) ?_)
        have hc : xin s 4 ∧ ¬ (hA F v).2.2 5 (nat s) = 0 ∧ xin i ((hA F v).2.2 4 (nat s)).toInt := by
          rw [es]
          exact ⟨a1, m0, a2⟩
        refine h.ok (F' := va_up F 62 (upd (F 62) (nat i) (bare (v 61 2) x))) (v' := v) S ?_ ((if_pos a1).trans ((if_neg hc.2.1).trans (if_pos hc.2.2)))
        rw [show g_put s i x (hA F v) = _ from if_pos hc, es]
        exact ⟨⟨⟨rfl, rfl, rfl, rfl, rfl, rfl⟩, fun _ _ => ⟨rfl, rfl⟩, fun _ _ => ⟨rfl, rfl⟩, fun _ _ => rfl, fun _ _ => rfl⟩, ⟨⟨fun _ _ => rfl, fun _ _ => rfl, fun _ _ => rfl, fun _ _ => rfl⟩, ⟨⟨rfl, rfl, rfl, rfl⟩, rfl, rfl, rfl, rfl⟩, ⟨rfl, rfl⟩, fun _ _ => rfl⟩, fun _ => ⟨⟨rfl, rfl, rfl, rfl, rfl, rfl⟩, fun _ _ => ⟨rfl, rfl⟩, fun _ _ => ⟨rfl, rfl⟩, fun _ _ => rfl, fun _ _ => rfl⟩⟩
    · have m0 : v 61 2 = 0 := m0
      refine br_c (fun z => absurd z (by decide)) (fun _ => ?_)
      refine xcall (sp_errH F v 2 (by decide) ?_)
      refine h.err S _ (if_neg fun z => z.2.1 ?_) ((if_pos a1).trans (if_pos ?_))
      · rw [es]
        exact m0
      · rw [es]
        exact m0
  · have es : nat s = 1 := by rw [es0]; decide
    have b4 : below 40 (v 63 1) := I.2.1.2.1.2.1
    refine xcall (sp_isMissing (fun k => F (63 + k)) (fun k => v (63 + k)) (fun m0 => ?_) (fun m0 => ?_))
    · have m0 : ¬ v 63 2 = 0 := m0
      refine br_c (fun _ => ?_) (fun z => absurd rfl z)
      refine xcall (sp_isBelow _ _ (fun a2 => ?_) (fun a2 => ?_))
      · refine br_n (fun z => absurd rfl z) (fun _ => ?_)
        refine xcall (sp_errH F v 1 (by decide) ?_)
        refine h.err S _ (if_neg fun z => a2 ?_) ((if_pos a1).trans ((if_neg ?_).trans (if_neg fun z => a2 ?_)))
        · have z := z.2.2
          rw [es] at z
          exact z
        · rw [es]
          exact m0
        · rw [es] at z
          exact z
      · have a2 : xin i (v 63 1).toInt := a2
        refine br_n (fun _ => ?_) (fun z => absurd z (by decide))
        refine xcall (sp_write (fun k => F (63 + k)) (fun k => v (63 + k)) i x (vinB b4 a2 (Nat.le_refl _) (by omega)) ?_)
        have hc : xin s 4 ∧ ¬ (hA F v).2.2 5 (nat s) = 0 ∧ xin i ((hA F v).2.2 4 (nat s)).toInt := by
          rw [es]
          exact ⟨a1, m0, a2⟩
        refine h.ok (F' := va_up F 64 (upd (F 64) (nat i) (bare (v 63 2) x))) (v' := v) S ?_ ((if_pos a1).trans ((if_neg hc.2.1).trans (if_pos hc.2.2)))
        rw [show g_put s i x (hA F v) = _ from if_pos hc, es]
        exact ⟨⟨⟨rfl, rfl, rfl, rfl, rfl, rfl⟩, fun _ _ => ⟨rfl, rfl⟩, fun _ _ => ⟨rfl, rfl⟩, fun _ _ => rfl, fun _ _ => rfl⟩, ⟨⟨fun _ _ => rfl, fun _ _ => rfl, fun _ _ => rfl, fun _ _ => rfl⟩, ⟨⟨rfl, rfl, rfl, rfl⟩, rfl, rfl, rfl, rfl⟩, ⟨rfl, rfl⟩, fun _ _ => rfl⟩, fun _ => ⟨⟨rfl, rfl, rfl, rfl, rfl, rfl⟩, fun _ _ => ⟨rfl, rfl⟩, fun _ _ => ⟨rfl, rfl⟩, fun _ _ => rfl, fun _ _ => rfl⟩⟩
    · have m0 : v 63 2 = 0 := m0
      refine br_c (fun z => absurd z (by decide)) (fun _ => ?_)
      refine xcall (sp_errH F v 2 (by decide) ?_)
      refine h.err S _ (if_neg fun z => z.2.1 ?_) ((if_pos a1).trans (if_pos ?_))
      · rw [es]
        exact m0
      · rw [es]
        exact m0
  · have es : nat s = 2 := by rw [es0]; decide
    have b4 : below 40 (v 65 1) := I.2.1.2.1.2.2.1
    refine xcall (sp_isMissing (fun k => F (65 + k)) (fun k => v (65 + k)) (fun m0 => ?_) (fun m0 => ?_))
    · have m0 : ¬ v 65 2 = 0 := m0
      refine br_c (fun _ => ?_) (fun z => absurd rfl z)
      refine xcall (sp_isBelow _ _ (fun a2 => ?_) (fun a2 => ?_))
      · refine br_n (fun z => absurd rfl z) (fun _ => ?_)
        refine xcall (sp_errH F v 1 (by decide) ?_)
        refine h.err S _ (if_neg fun z => a2 ?_) ((if_pos a1).trans ((if_neg ?_).trans (if_neg fun z => a2 ?_)))
        · have z := z.2.2
          rw [es] at z
          exact z
        · rw [es]
          exact m0
        · rw [es] at z
          exact z
      · have a2 : xin i (v 65 1).toInt := a2
        refine br_n (fun _ => ?_) (fun z => absurd z (by decide))
        refine xcall (sp_write (fun k => F (65 + k)) (fun k => v (65 + k)) i x (vinB b4 a2 (Nat.le_refl _) (by omega)) ?_)
        have hc : xin s 4 ∧ ¬ (hA F v).2.2 5 (nat s) = 0 ∧ xin i ((hA F v).2.2 4 (nat s)).toInt := by
          rw [es]
          exact ⟨a1, m0, a2⟩
        refine h.ok (F' := va_up F 66 (upd (F 66) (nat i) (bare (v 65 2) x))) (v' := v) S ?_ ((if_pos a1).trans ((if_neg hc.2.1).trans (if_pos hc.2.2)))
        rw [show g_put s i x (hA F v) = _ from if_pos hc, es]
        exact ⟨⟨⟨rfl, rfl, rfl, rfl, rfl, rfl⟩, fun _ _ => ⟨rfl, rfl⟩, fun _ _ => ⟨rfl, rfl⟩, fun _ _ => rfl, fun _ _ => rfl⟩, ⟨⟨fun _ _ => rfl, fun _ _ => rfl, fun _ _ => rfl, fun _ _ => rfl⟩, ⟨⟨rfl, rfl, rfl, rfl⟩, rfl, rfl, rfl, rfl⟩, ⟨rfl, rfl⟩, fun _ _ => rfl⟩, fun _ => ⟨⟨rfl, rfl, rfl, rfl, rfl, rfl⟩, fun _ _ => ⟨rfl, rfl⟩, fun _ _ => ⟨rfl, rfl⟩, fun _ _ => rfl, fun _ _ => rfl⟩⟩
    · have m0 : v 65 2 = 0 := m0
      refine br_c (fun z => absurd z (by decide)) (fun _ => ?_)
      refine xcall (sp_errH F v 2 (by decide) ?_)
      refine h.err S _ (if_neg fun z => z.2.1 ?_) ((if_pos a1).trans (if_pos ?_))
      · rw [es]
        exact m0
      · rw [es]
        exact m0
  · have es : nat s = 3 := by rw [es0]; decide
    have b4 : below 40 (v 67 1) := I.2.1.2.1.2.2.2
    refine xcall (sp_isMissing (fun k => F (67 + k)) (fun k => v (67 + k)) (fun m0 => ?_) (fun m0 => ?_))
    · have m0 : ¬ v 67 2 = 0 := m0
      refine br_c (fun _ => ?_) (fun z => absurd rfl z)
      refine xcall (sp_isBelow _ _ (fun a2 => ?_) (fun a2 => ?_))
      · refine br_n (fun z => absurd rfl z) (fun _ => ?_)
        refine xcall (sp_errH F v 1 (by decide) ?_)
        refine h.err S _ (if_neg fun z => a2 ?_) ((if_pos a1).trans ((if_neg ?_).trans (if_neg fun z => a2 ?_)))
        · have z := z.2.2
          rw [es] at z
          exact z
        · rw [es]
          exact m0
        · rw [es] at z
          exact z
      · have a2 : xin i (v 67 1).toInt := a2
        refine br_n (fun _ => ?_) (fun z => absurd z (by decide))
        refine xcall (sp_write (fun k => F (67 + k)) (fun k => v (67 + k)) i x (vinB b4 a2 (Nat.le_refl _) (by omega)) ?_)
        have hc : xin s 4 ∧ ¬ (hA F v).2.2 5 (nat s) = 0 ∧ xin i ((hA F v).2.2 4 (nat s)).toInt := by
          rw [es]
          exact ⟨a1, m0, a2⟩
        refine h.ok (F' := va_up F 68 (upd (F 68) (nat i) (bare (v 67 2) x))) (v' := v) S ?_ ((if_pos a1).trans ((if_neg hc.2.1).trans (if_pos hc.2.2)))
        rw [show g_put s i x (hA F v) = _ from if_pos hc, es]
        exact ⟨⟨⟨rfl, rfl, rfl, rfl, rfl, rfl⟩, fun _ _ => ⟨rfl, rfl⟩, fun _ _ => ⟨rfl, rfl⟩, fun _ _ => rfl, fun _ _ => rfl⟩, ⟨⟨fun _ _ => rfl, fun _ _ => rfl, fun _ _ => rfl, fun _ _ => rfl⟩, ⟨⟨rfl, rfl, rfl, rfl⟩, rfl, rfl, rfl, rfl⟩, ⟨rfl, rfl⟩, fun _ _ => rfl⟩, fun _ => ⟨⟨rfl, rfl, rfl, rfl, rfl, rfl⟩, fun _ _ => ⟨rfl, rfl⟩, fun _ _ => ⟨rfl, rfl⟩, fun _ _ => rfl, fun _ _ => rfl⟩⟩
    · have m0 : v 67 2 = 0 := m0
      refine br_c (fun z => absurd z (by decide)) (fun _ => ?_)
      refine xcall (sp_errH F v 2 (by decide) ?_)
      refine h.err S _ (if_neg fun z => z.2.1 ?_) ((if_pos a1).trans (if_pos ?_))
      · rw [es]
        exact m0
      · rw [es]
        exact m0
