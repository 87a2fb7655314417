/-! Pieces: both. -/
theorem eU_sym {cu : Nat} {t : Nat → Nat} {i j : Nat} : eU cu t i j = eU cu t j i := by
  unfold eU
  rw [eC_sym]
theorem aH_of {lg cu : Nat} {t : Nat → Nat} {i j : Nat} : aH lg cu t i j = true ↔ (i < lg ∧ j < lg) ∨ eU cu t i j = true := by
  unfold aH
  rw [Bool.or_eq_true_iff, Bool.and_eq_true_iff, decide_eq_true_iff, decide_eq_true_iff]
