/-! ===== the tried side: images, sheets, small ones ===== -/
variable {Φ : hRw → Prop}
theorem cpy0 {f g : Nat → Int32} {n j : Nat} (h : j < n) : va_cpy f g 0 0 n j = f j := by
  rw [pk_cpy_in (Nat.zero_le _) (by omega)]
  congr 1
  omega
theorem bel_nat {N : Nat} {x : Int32} (hx : below N x) (hN : N < 2 ^ 31) : nat x ≤ N := by
  obtain ⟨k, hk, rfl⟩ := hx
  rw [show nat (nI k) = k from nI_clamp (by omega)]
  exact hk
def imF (F : xS) : xS := fun k => if k < 18 then F (19 + k) else F (1 + (k - 18))
def imF2 (F : xS) (n0 n1 : Nat) : xS := fun k => if 19 ≤ k ∧ k < 37 then cpF (imF F) n0 n1 (k - 19) else F k
def imV2 (v : xS) (n0 n1 : Nat) : xS := va_up (fun k => if 19 ≤ k ∧ k < 37 then cpV (imF v) n0 n1 (k - 19) else v k) 0 (va_up (v 0) 7 (v 0 7 + 1))
def reF2 (F : xS) (n0 n1 : Nat) : xS := fun k => if 1 ≤ k ∧ k < 19 then cpF (fun k => F (1 + k)) n0 n1 (k - 1) else F k
def reV2 (v : xS) (n0 n1 : Nat) : xS := fun k => if 1 ≤ k ∧ k < 19 then cpV (fun k => v (1 + k)) n0 n1 (k - 1) else v k
