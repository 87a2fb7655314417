/-! The model undoes. -/
theorem undo_loop {X : Int → xN → Option (Int × xN)} {n U : Nat} (hU : U ≤ 4) : ∀ (m k : Nat) (R : xN), k + m = 464 → R 323 3 = (U : Int) → ∃ R', lp_X10_undo_22 323 (n + 1 + m) (k : Int) R X = X 464 R' ∧ (∀ j : Nat, k ≤ j → j < 464 → R' 324 j = R 325 (464 * U + j)) ∧ ∀ q j : Nat, ¬ (q = 324 ∧ k ≤ j ∧ j < 464) → R' q j = R q j := by
  intro m
  induction m with
  | zero =>
    intro k R hk _
    refine ⟨R, ?_, fun j _ _ => by omega, fun q j _ => rfl⟩
    rw [show n + 1 + 0 = n + 1 from rfl, lp_X10_undo_22, if_pos (by omega), show (k : Int) = 464 by omega]
  | succ m ih =>
    intro k R hk hu
    have e1 : w4 ((k : Int) + 1) = ((k + 1 : Nat) : Int) := by rw [w4_of (by omega)]; omega
    have e2 : w4 (464 * (U : Int)) = ((464 * U : Nat) : Int) := by rw [w4_of (by omega)]; omega
    have e3 : w4 (((464 * U : Nat) : Int) + (k : Int)) = ((464 * U + k : Nat) : Int) := by rw [w4_of (by omega)]; omega
    obtain ⟨R', p1, p2, p3⟩ := ih (k + 1) (xup R 324 k (R 325 (464 * U + k))) (by omega) (by rw [xup_get, if_neg (by decide)]; exact hu)
    refine ⟨R', ?_, fun j h1 h2 => ?_, fun q j hq => ?_⟩
    · rw [show n + 1 + (m + 1) = (n + 1 + m) + 1 from rfl, lp_X10_undo_22, if_neg (by omega)]
      simp only [hu, e1, e2, e3, xlet, Int.toNat_natCast]
      rw [if_pos ⟨by omega, by omega⟩, if_pos ⟨by omega, by omega⟩]
      exact p1
    · by_cases a : j = k
      · rw [p3 324 _ (by omega), a, xup_get, if_pos rfl, if_pos rfl]
      · rw [p2 j (by omega) h2, xup_get, if_neg (by decide)]
    · rw [p3 q j (by omega), xup_get]
      by_cases a : q = 324
      · rw [if_pos a, if_neg (by omega)]
      · rw [if_neg a]
set_option maxRecDepth 100000 in
theorem undo_row {R : xN} {U : Nat} (hU : U ≤ 4) (hu : R 323 3 = (U : Int) + 1) : ∃ R', f_X10_undo 323 R = some ((U : Int), R') ∧ (∀ j : Nat, j < 464 → R' 324 j = R 325 (464 * U + j)) ∧ R' 323 3 = (U : Int) ∧ ∀ q j : Nat, ¬ (q = 324 ∧ j < 464) → ¬ (q = 323 ∧ j = 3) → R' q j = R q j := by
  obtain ⟨R', p1, p2, p3⟩ := undo_loop (X := fun _ R9 => some ((R9 323 3), R9)) (n := 5535) hU 464 0 (xup R 323 3 (U : Int)) rfl (by rw [xup_get, if_pos rfl, if_pos rfl])
  have hk : R' 323 3 = (U : Int) := by rw [p3 323 3 (by omega), xup_get, if_pos rfl, if_pos rfl]
  refine ⟨R', ?_, fun j hj => ?_, hk, fun q j h1 h2 => ?_⟩
  · unfold f_X10_undo
    rw [if_neg (by omega), hu]
    simp only [xlet]
    rw [w4_of (by omega), show (U : Int) + 1 - 1 = (U : Int) by omega]
    have p1' : lp_X10_undo_22 323 6000 0 (xup R 323 3 (U : Int)) (fun _ R9 => some ((R9 323 3), R9)) = _ := p1
    rw [p1', hk]
  · rw [p2 j (by omega) hj, xup_get, if_neg (by decide)]
  · rw [p3 q j (by omega), xup_get]
    by_cases a : q = 323
    · rw [if_pos a, if_neg (fun h => h2 ⟨a, h⟩)]
    · rw [if_neg a]
