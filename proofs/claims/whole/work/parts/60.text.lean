/-! The program text's row. -/
theorem in9 {i a b : Int} {R : xN} : f_X9_isIn i a b R = some (decide (a ≤ i ∧ i ≤ b)) := by
  unfold f_X9_isIn
  by_cases h1 : i < a
  · rw [if_pos h1, decide_eq_false (by omega)]
  · rw [if_neg h1]
    by_cases h2 : b < i
    · rw [if_pos h2, decide_eq_false (by omega)]
    · rw [if_neg h2, decide_eq_true (by omega)]
theorem in10 {i a b : Int} {R : xN} : f_X10_in i a b R = some (decide (a ≤ i ∧ i ≤ b)) := by
  unfold f_X10_in
  by_cases h1 : i < a
  · rw [if_pos h1, decide_eq_false (by omega)]
  · rw [if_neg h1]
    by_cases h2 : b < i
    · rw [if_pos h2, decide_eq_false (by omega)]
    · rw [if_neg h2, decide_eq_true (by omega)]
/-- the class's text and the model's -/
def iText (R : xN) : Prop := 0 ≤ R 0 5 ∧ R 0 5 ≤ 120 ∧ R 323 4 = R 0 5 ∧ ∀ j : Nat, (j : Int) < R 0 5 → R 327 j = R 319 j ∧ 1 ≤ R 319 j ∧ R 319 j ≤ 255
/-- nothing but the text is written -/
def kText (R R2 : xN) : Prop := ∀ q j : Nat, q ≠ 319 → q ≠ 327 → ¬ (q = 0 ∧ j = 5) → ¬ (q = 323 ∧ j = 4) → R2 q j = R q j
theorem t_clear {R : xN} (_h : iText R) : ∃ (r : Int) (R1 R2 : xN), f_X9_clearText 0 R = some (r, R1) ∧ f_X10_clearText 323 R1 = some (r, R2) ∧ iText R2 ∧ kText R R2 := by
  refine ⟨R 0 5, xup R 0 5 0, xup (xup R 0 5 0) 323 4 0, rfl, ?_, ⟨?_, ?_, ?_, ?_⟩, ?_⟩
  · unfold f_X10_clearText
    simp only [xlet]
    rw [xup_get, if_neg (by decide), _h.2.2.1]
  · simp [xup_get]
  · simp [xup_get]
  · simp [xup_get]
  · intro j hj
    simp [xup_get] at hj
    omega
  · intro q j h1 h2 h3 h4
    simp only [xup_get]
    by_cases a1 : q = 323
    · rw [if_pos a1, if_neg (fun h => h4 ⟨a1, h⟩), if_neg (by omega)]
    · rw [if_neg a1]
      by_cases a2 : q = 0
      · rw [if_pos a2, if_neg (fun h => h3 ⟨a2, h⟩)]
      · rw [if_neg a2]
theorem t_append {R : xN} {u : Int} (h : iText R) : ∃ (r : Int) (R1 R2 : xN), f_X9_append 0 u R = some (r, R1) ∧ f_X10_append 323 u R1 = some (r, R2) ∧ iText R2 ∧ kText R R2 := by
  obtain ⟨h0, h1, h2, h3⟩ := h
  unfold f_X9_append f_X10_append
  simp only [in9, in10, Option.bind_some, xlet, Nat.zero_add]
  by_cases hu : 1 ≤ u ∧ u ≤ 255
  · rw [if_pos (decide_eq_true hu), if_neg (show ¬ R 0 5 < 0 by omega)]
    by_cases hl : R 0 5 < 120
    · rw [if_pos hl, if_pos ⟨h0, hl⟩]
      refine ⟨R 0 5 + 1, xup (xup R 319 (R 0 5).toNat u) 0 5 (R 0 5 + 1), xup (xup (xup (xup R 319 (R 0 5).toNat u) 0 5 (R 0 5 + 1)) 327 (R 0 5).toNat u) 323 4 (R 0 5 + 1), ?_, ?_, ?_, ?_⟩
      · simp only [xup_get, if_true, if_neg (show ¬ (0 : Nat) = 319 by decide)]
        rw [w4_of (by omega)]
      · rw [if_pos (decide_eq_true hu)]
        simp only [xup_get, if_true, if_neg (show ¬ (323 : Nat) = 0 by decide), if_neg (show ¬ (323 : Nat) = 319 by decide), if_neg (show ¬ (0 : Nat) = 319 by decide), if_neg (show ¬ (323 : Nat) = 327 by decide), h2]
        rw [w4_of (by omega), if_neg (by omega), if_pos ⟨h0, hl⟩]
      · refine ⟨by simp [xup_get]; omega, by simp [xup_get]; omega, by simp [xup_get], fun j hj => ?_⟩
        simp [xup_get] at hj ⊢
        by_cases a : j = (R 0 5).toNat
        · simp [a, hu.1, hu.2]
        · simp [a]
          exact h3 j (by omega)
      · intro q j g1 g2 g3 g4
        simp only [xup_get]
        by_cases a1 : q = 323
        · rw [if_pos a1, if_neg (fun h => g4 ⟨a1, h⟩), if_neg g2, if_neg (by omega), if_neg g1]
        · rw [if_neg a1, if_neg g2]
          by_cases a2 : q = 0
          · rw [if_pos a2, if_neg (fun h => g3 ⟨a2, h⟩), if_neg g1]
          · rw [if_neg a2, if_neg g1]
    · rw [if_neg hl]
      refine ⟨-3, R, R, rfl, ?_, ⟨h0, h1, h2, h3⟩, fun q j _ _ _ _ => rfl⟩
      rw [if_pos (decide_eq_true hu), if_pos (by omega)]
  · rw [if_neg (by rw [decide_eq_false hu]; decide)]
    refine ⟨-1, R, R, rfl, ?_, ⟨h0, h1, h2, h3⟩, fun q j _ _ _ _ => rfl⟩
    rw [if_neg (by rw [decide_eq_false hu]; decide)]
