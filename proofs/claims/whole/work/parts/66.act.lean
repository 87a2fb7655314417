/-! The model acts. -/
/-- what act does: the row s is put behind the earlier ones, of which the oldest may go -/
theorem act_grow {R : xN} {U : Nat} (hr : R 323 6 = 0) (hU : U ≤ 4) (hu : R 323 3 = (U : Int)) : ∃ R', f_X10_act 323 R = some R' ∧ (∀ j : Nat, j < 464 → R' 325 (464 * U + j) = R 324 j) ∧ R' 323 3 = (U : Int) + 1 ∧ ∀ q j : Nat, ¬ (q = 325 ∧ 464 * U ≤ j ∧ j < 464 * U + 464) → ¬ (q = 323 ∧ j = 3) → R' q j = R q j := by
  obtain ⟨R', p1, p2, p3⟩ := rec_loop (X := fun _ R19 => some (xup R19 323 3 (w4 ((R19 323 3) + 1)))) (n := 5535) hU 464 0 R rfl hu
  have hk : R' 323 3 = (U : Int) := by rw [p3 323 3 (by omega), hu]
  refine ⟨xup R' 323 3 ((U : Int) + 1), ?_, fun j hj => ?_, ?_, fun q j h1 h2 => ?_⟩
  · unfold f_X10_act f_X10_record
    rw [if_pos hr, if_neg (by omega)]
    simp only [xlet]
    have p1' : lp_X10_record_51 323 6000 0 R (fun _ R19 => some (xup R19 323 3 (w4 ((R19 323 3) + 1)))) = _ := p1
    rw [p1', hk, w4_of (by omega)]
    rfl
  · rw [xup_get, if_neg (by decide), p2 j (by omega) hj]
  · rw [xup_get, if_pos rfl, if_pos rfl]
  · rw [xup_get]
    by_cases a : q = 323
    · rw [if_pos a, if_neg (fun h => h2 ⟨a, h⟩), p3 q j (by omega)]
    · rw [if_neg a, p3 q j (by omega)]
set_option maxRecDepth 100000 in
theorem act_shift {R : xN} (hr : R 323 6 = 0) (hu : R 323 3 = 5) : ∃ R', f_X10_act 323 R = some R' ∧ (∀ j : Nat, j < 1856 → R' 325 j = R 325 (464 + j)) ∧ (∀ j : Nat, j < 464 → R' 325 (1856 + j) = R 324 j) ∧ R' 323 3 = 5 ∧ ∀ q j : Nat, ¬ (q = 325) → ¬ (q = 323 ∧ j = 3) → R' q j = R q j := by
  obtain ⟨R1, s1, s2, s3⟩ := shift_loop (X := fun _ R8 => lp_X10_record_51 323 6000 0 (xup R8 323 3 (w4 ((R8 323 3) - 1))) (fun _ R16 => some (xup R16 323 3 (w4 ((R16 323 3) + 1))))) (n := 4143) 1856 0 R rfl
  have hk1 : R1 323 3 = 5 := by rw [s3 323 3 (by omega), hu]
  obtain ⟨R', p1, p2, p3⟩ := rec_loop (U := 4) (X := fun _ R19 => some (xup R19 323 3 (w4 ((R19 323 3) + 1)))) (n := 5535) (by omega) 464 0 (xup R1 323 3 4) rfl (by rw [xup_get, if_pos rfl, if_pos rfl]; rfl)
  have hk : R' 323 3 = 4 := by rw [p3 323 3 (by omega), xup_get, if_pos rfl, if_pos rfl]
  refine ⟨xup R' 323 3 5, ?_, fun j hj => ?_, fun j hj => ?_, ?_, fun q j h1 h2 => ?_⟩
  · unfold f_X10_act f_X10_record
    rw [if_pos hr, if_pos hu]
    simp only [xlet]
    have s1' : lp_X10_record_10 323 6000 0 R (fun _ R8 => lp_X10_record_51 323 6000 0 (xup R8 323 3 (w4 ((R8 323 3) - 1))) (fun _ R16 => some (xup R16 323 3 (w4 ((R16 323 3) + 1))))) = _ := s1
    have p1' : lp_X10_record_51 323 6000 0 (xup R1 323 3 4) (fun _ R19 => some (xup R19 323 3 (w4 ((R19 323 3) + 1)))) = _ := p1
    rw [s1', hk1, w4_of (by omega), show (5 : Int) - 1 = 4 from rfl, p1', hk, w4_of (by omega)]
    rfl
  · rw [xup_get, if_neg (by decide), p3 325 j (by omega), xup_get, if_neg (by decide), s2 j (by omega) hj]
  · rw [xup_get, if_neg (by decide), p2 j (by omega) hj, xup_get, if_neg (by decide), s3 324 j (by omega)]
  · rw [xup_get, if_pos rfl, if_pos rfl]
  · rw [xup_get]
    by_cases a : q = 323
    · rw [if_pos a, if_neg (fun h => h2 ⟨a, h⟩), p3 q j (by omega), xup_get, if_pos a, if_neg (fun h => h2 ⟨a, h⟩), s3 q j (by omega)]
    · rw [if_neg a, p3 q j (by omega), xup_get, if_neg a, s3 q j (by omega)]
