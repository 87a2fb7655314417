/-! Looking: layer, opening, hanging, together, reading, pageOf; a cut. -/
theorem cel_num : ∀ W ∈ ([1, 2, 4] : List Nat), ∀ n : Nat, n < 64 → n % 4 < W → (W : Int) ≠ 0 ∧ w4 (Int.tdiv (cel W n : Int) (W : Int)) = (cr n : Int) ∧ Int.tmod (cel W n : Int) (W : Int) = ((n % 4 : Nat) : Int) := by decide +kernel
theorem bits_num : ∀ n : Nat, n < 64 → (b4and (n : Int) 16 = 0 ↔ mir n = 0) ∧ (b4and (n : Int) 32 = 0 ↔ ups n = 0) ∧ mir n < 2 ∧ ups n < 2 := by decide +kernel
theorem asn9 {R : xN} : f_X9_asNumber true R = some 1 ∧ f_X9_asNumber false R = some 0 := ⟨rfl, rfl⟩
