/-! A desk is copied. -/
/-- which numbers of a desk's cells matter -/
def dc (k j : Nat) : Bool := match k with
  | 0 => decide (5 ≤ j ∧ j ≤ 9)
  | 1 => decide (j < 2)
  | 2 => decide (j < 32)
  | 3 => decide (j < 32)
  | 4 => decide (j < 6)
  | 5 => decide (j < 16)
  | 7 => decide (j = 3)
  | 8 => decide (j < 8)
  | 9 => decide (j < 8)
  | 10 => decide (j < 8)
  | 11 => decide (j = 1)
  | 12 => decide (j < 48)
  | 13 => decide (j < 4)
  | _ => false
set_option maxHeartbeats 2000000 in
theorem dcopy {R : xN} {a b : Nat} (h : a + 14 ≤ b ∨ b + 14 ≤ a) : ∃ R', f_X0_copyFrom a b R = some R' ∧ (∀ k j : Nat, k < 14 → dc k j = true → R' (a + k) j = R (b + k) j) ∧ ∀ q j : Nat, (q < a ∨ a + 14 ≤ q) → R' q j = R q j := by
  unfold f_X0_copyFrom f_X5_copyFrom f_X3_copyFrom f_X7_copyFrom f_X4_copyFrom
  simp only [xlet, Option.bind_some]
  have n1 : ∀ i j : Nat, i < 14 → j < 14 → (b + i = a + j) = False := fun i j h1 h2 => eq_false (by omega)
  have n2 : ∀ j : Nat, j < 14 → (b = a + j) = False := fun j h2 => eq_false (by omega)
  have n3 : ∀ i : Nat, i < 14 → (b + i = a) = False := fun i h2 => eq_false (by omega)
  have n4 : (b = a) = False := eq_false (by omega)
  refine ⟨_, rfl, fun k j hk hd => ?_, fun q j hq => ?_⟩
  · simp only [xup_get, xcpy_get]
    have : k = 0 ∨ k = 1 ∨ k = 2 ∨ k = 3 ∨ k = 4 ∨ k = 5 ∨ k = 6 ∨ k = 7 ∨ k = 8 ∨ k = 9 ∨ k = 10 ∨ k = 11 ∨ k = 12 ∨ k = 13 := by omega
    rcases this with rfl | rfl | rfl | rfl | rfl | rfl | rfl | rfl | rfl | rfl | rfl | rfl | rfl | rfl
    all_goals simp [dc] at hd
    all_goals simp [n1, n2, n3, n4, Nat.add_assoc, hd]
    all_goals (repeat' split) <;> first | rfl | (subst_vars; rfl) | (exfalso; omega)
  · simp only [xup_get, xcpy_get]
    have m : ∀ j : Nat, j < 14 → (q = a + j) = False := fun j h2 => eq_false (by omega)
    have m0 : (q = a) = False := eq_false (by omega)
    simp [m, m0, Nat.add_assoc]

