/-! The model's record. -/
theorem rec_loop {X : Int → xN → Option xN} {n U : Nat} (hU : U ≤ 4) : ∀ (m k : Nat) (R : xN), k + m = 464 → R 323 3 = (U : Int) → ∃ R', lp_X10_record_51 323 (n + 1 + m) (k : Int) R X = X 464 R' ∧ (∀ j : Nat, k ≤ j → j < 464 → R' 325 (464 * U + j) = R 324 j) ∧ ∀ q j : Nat, ¬ (q = 325 ∧ 464 * U + k ≤ j ∧ j < 464 * U + 464) → R' q j = R q j := by
  intro m
  induction m with
  | zero =>
    intro k R hk _
    refine ⟨R, ?_, fun j _ _ => by omega, fun q j _ => rfl⟩
    rw [show n + 1 + 0 = n + 1 from rfl, lp_X10_record_51, if_pos (by omega), show (k : Int) = 464 by omega]
  | succ m ih =>
    intro k R hk hu
    have e1 : w4 ((k : Int) + 1) = ((k + 1 : Nat) : Int) := by rw [w4_of (by omega)]; omega
    have e2 : w4 (464 * (U : Int)) = ((464 * U : Nat) : Int) := by rw [w4_of (by omega)]; omega
    have e3 : w4 (((464 * U : Nat) : Int) + (k : Int)) = ((464 * U + k : Nat) : Int) := by rw [w4_of (by omega)]; omega
    obtain ⟨R', p1, p2, p3⟩ := ih (k + 1) (xup R 325 (464 * U + k) (R 324 k)) (by omega) (by rw [xup_get, if_neg (by decide)]; exact hu)
    refine ⟨R', ?_, fun j h1 h2 => ?_, fun q j hq => ?_⟩
    · rw [show n + 1 + (m + 1) = (n + 1 + m) + 1 from rfl, lp_X10_record_51, if_neg (by omega)]
      simp only [hu, e1, e2, e3, xlet, Int.toNat_natCast]
      rw [if_pos ⟨by omega, by omega⟩, if_pos ⟨by omega, by omega⟩]
      exact p1
    · by_cases a : j = k
      · rw [p3 325 _ (by omega), a, xup_get, if_pos rfl, if_pos rfl]
      · rw [p2 j (by omega) h2, xup_get, if_neg (by decide)]
    · rw [p3 q j (by omega), xup_get]
      by_cases a : q = 325
      · rw [if_pos a, if_neg (by omega)]
      · rw [if_neg a]
theorem shift_loop {X : Int → xN → Option xN} {n : Nat} : ∀ (m k : Nat) (R : xN), k + m = 1856 → ∃ R', lp_X10_record_10 323 (n + 1 + m) (k : Int) R X = X 1856 R' ∧ (∀ j : Nat, k ≤ j → j < 1856 → R' 325 j = R 325 (464 + j)) ∧ ∀ q j : Nat, ¬ (q = 325 ∧ k ≤ j ∧ j < 1856) → R' q j = R q j := by
  intro m
  induction m with
  | zero =>
    intro k R hk
    refine ⟨R, ?_, fun j _ _ => by omega, fun q j _ => rfl⟩
    rw [show n + 1 + 0 = n + 1 from rfl, lp_X10_record_10, if_pos (by omega), show (k : Int) = 1856 by omega]
  | succ m ih =>
    intro k R hk
    have e1 : w4 ((k : Int) + 1) = ((k + 1 : Nat) : Int) := by rw [w4_of (by omega)]; omega
    have e3 : w4 (464 + (k : Int)) = ((464 + k : Nat) : Int) := by rw [w4_of (by omega)]; omega
    obtain ⟨R', p1, p2, p3⟩ := ih (k + 1) (xup R 325 k (R 325 (464 + k))) (by omega)
    refine ⟨R', ?_, fun j h1 h2 => ?_, fun q j hq => ?_⟩
    · rw [show n + 1 + (m + 1) = (n + 1 + m) + 1 from rfl, lp_X10_record_10, if_neg (by omega)]
      simp only [e1, e3, xlet, Int.toNat_natCast]
      rw [if_pos ⟨by omega, by omega⟩, if_pos ⟨by omega, by omega⟩]
      exact p1
    · by_cases a : j = k
      · rw [p3 325 _ (by omega), a, xup_get, if_pos rfl, if_pos rfl]
      · rw [p2 j (by omega) h2, xup_get, if_pos rfl, if_neg (by omega)]
    · rw [p3 q j (by omega), xup_get]
      by_cases a : q = 325
      · rw [if_pos a, if_neg (by omega)]
      · rw [if_neg a]
