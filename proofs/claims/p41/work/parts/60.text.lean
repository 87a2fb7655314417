/-! The program text's row. -/
theorem in9 {i a b : Int} {R : xN} : f_X9_isIn i a b R = some (decide (a ≤ i ∧ i ≤ b)) := by
  unfold f_X9_isIn
  by_cases h1 : i < a
  · rw [if_pos h1, decide_eq_false (by omega)]
  · rw [if_neg h1]
    by_cases h2 : b < i
    · rw [if_pos h2, decide_eq_false (by omega)]
    · rw [if_neg h2, decide_eq_true (by omega)]
/-- the class's text and the model's -/
def iText (R : xN) : Prop := 0 ≤ R 0 5 ∧ R 0 5 ≤ 120 ∧ R 323 4 = R 0 5 ∧ ∀ j : Nat, (j : Int) < R 0 5 → R 327 j = R 319 j ∧ 1 ≤ R 319 j ∧ R 319 j ≤ 255
