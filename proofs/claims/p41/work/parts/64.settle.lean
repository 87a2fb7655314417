/-! The history settles. -/
theorem iserr {i : Int} {R : xN} : f_X9_isError i R = some (decide (-3 ≤ i ∧ i ≤ -1)) := by
  unfold f_X9_isError
  rw [in9]
  rfl
theorem settle_err {R : xN} {i : Int} (h : -3 ≤ i ∧ i ≤ -1) : f_X1_settle 45 i R = some (i, R) := by
  unfold f_X1_settle
  rw [iserr, Option.bind_some, if_pos (decide_eq_true h)]
theorem settle_grow {R : xN} {i : Int} (h : ¬ (-3 ≤ i ∧ i ≤ -1)) (h0 : 0 ≤ R 45 1) (h1 : R 45 1 < 5) : f_X1_settle 45 i R = some (i, xup R 45 1 (R 45 1 + 1)) := by
  unfold f_X1_settle
  rw [iserr, Option.bind_some, decide_eq_false h, if_neg (by decide), if_neg (by omega)]
  simp only [xlet]
  rw [w4_of (by omega)]
theorem drop_loop {X : Int → xN → Option xN} {q1 n : Nat} : ∀ (m k : Nat) (R : xN), k + m = 5 → (∀ j : Nat, j < 6 → ∃ i : Nat, i < 6 ∧ R 46 j = ((47 + 44 * i : Nat) : Int)) → ∃ R', lp_X1_dropOldest_9 45 q1 (n + 1 + m) (k : Int) R X = X 5 R' ∧ (∀ j : Nat, k ≤ j → j < 5 → R' 46 j = R 46 (j + 1)) ∧ ∀ q j : Nat, ¬ (q = 46 ∧ k ≤ j ∧ j < 5) → R' q j = R q j := by
  intro m
  induction m with
  | zero =>
    intro k R hk _
    refine ⟨R, ?_, fun j _ _ => by omega, fun q j _ => rfl⟩
    rw [show n + 1 + 0 = n + 1 from rfl, lp_X1_dropOldest_9, if_pos (by omega), show (k : Int) = 5 by omega]
  | succ m ih =>
    intro k R hk hv
    obtain ⟨i, hi, he⟩ := hv (k + 1) (by omega)
    have e1 : w4 ((k : Int) + 1) = ((k + 1 : Nat) : Int) := by rw [w4_of (by omega)]; omega
    obtain ⟨R', p1, p2, p3⟩ := ih (k + 1) (xup R 46 k (R 46 (k + 1))) (by omega) (fun j hj => by
      rw [xup_get, if_pos rfl]
      by_cases a : j = k
      · rw [if_pos a]; exact hv (k + 1) (by omega)
      · rw [if_neg a]; exact hv j hj)
    refine ⟨R', ?_, fun j h1 h2 => ?_, fun q j hq => ?_⟩
    · rw [show n + 1 + (m + 1) = (n + 1 + m) + 1 from rfl, lp_X1_dropOldest_9, if_neg (by omega)]
      simp only [e1, xlet, Int.toNat_natCast]
      rw [show 45 + 1 = 46 from rfl, he, if_pos ⟨by omega, by omega, xsta_at hi⟩, if_pos ⟨by omega, by omega⟩, Int.toNat_natCast, ← he]
      exact p1
    · by_cases a : j = k
      · rw [p3 46 j (by omega), a, xup_get, if_pos rfl, if_pos rfl]
      · rw [p2 j (by omega) h2, xup_get, if_pos rfl, if_neg (by omega)]
    · rw [p3 q j (by omega), xup_get]
      by_cases a : q = 46
      · rw [if_pos a, if_neg (by omega)]
      · rw [if_neg a]
theorem settle_drop {R : xN} {i : Int} (h : ¬ (-3 ≤ i ∧ i ≤ -1)) (hh : iHist R) (h1 : R 45 1 = 5) : ∃ R', f_X1_settle 45 i R = some (i, R') ∧ (∀ j : Nat, j < 5 → R' 46 j = R 46 (j + 1)) ∧ R' 46 5 = R 46 0 ∧ ∀ q j : Nat, ¬ (q = 46 ∧ j < 6) → R' q j = R q j := by
  obtain ⟨i0, hi0, he0⟩ := hh.2.2.1 0 (by omega)
  obtain ⟨R', p1, p2, p3⟩ := drop_loop (X := fun _ R8 => some (xup R8 46 5 (((R 46 0).toNat : Nat) : Int))) (q1 := (R 46 0).toNat) (n := 5994) 5 0 R rfl hh.2.2.1
  refine ⟨xup R' 46 5 (R 46 0), ?_, fun j hj => ?_, ?_, fun q j hq => ?_⟩
  · unfold f_X1_settle f_X1_dropOldest
    rw [iserr, Option.bind_some, decide_eq_false h, if_neg (by decide), if_pos (by omega), show 45 + 1 = 46 from rfl, if_pos ⟨by decide, by decide, by rw [he0]; exact xsta_at hi0⟩]
    simp only [xlet]
    have p1' : lp_X1_dropOldest_9 45 (R 46 0).toNat 6000 0 R (fun _ R8 => some (xup R8 46 5 (((R 46 0).toNat : Nat) : Int))) = _ := p1
    rw [p1', Option.bind_some, he0, Int.toNat_natCast]
  · rw [xup_get, if_pos rfl, if_neg (by omega), p2 j (by omega) hj]
  · rw [xup_get, if_pos rfl, if_pos rfl]
  · rw [xup_get]
    by_cases a : q = 46
    · rw [if_pos a, if_neg (by omega), p3 q j (by omega)]
    · rw [if_neg a, p3 q j (by omega)]

