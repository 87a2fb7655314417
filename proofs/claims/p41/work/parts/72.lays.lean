/-! Geometry: the class's loops. -/
theorem lay56_lp {a : Nat} {f r c k d np : Nat} (hr : r ∈ [1, 2, 4]) (hc : c ∈ [2, 4]) (hf : f ∈ [1, 2]) (hd : d = 1 ∨ d = 2 ∨ d = 4 ∨ d = 8) (hk : b4shl 1 (k : Int) = (d : Int)) (hnp : r * (c / 2) = np) (hN : np * 2 = r * c) (hN2 : r * c * d ≤ 16) :
    ∀ (n p : Nat) (R : xN), p ≤ np → np - p < n → R a 3 = (c : Int) → R a 5 = (k : Int) → ∃ R', (∀ X : Int → xN → Option xN, lp_X3_lay_56 a (f : Int) (r : Int) ((c / 2 : Nat) : Int) n (p : Int) R X = X (np : Int) R') ∧ (∀ p' k' : Nat, p ≤ p' → p' < np → k' < d → R' (a + 2) (2 * d * p' + k') = b4xor (R (a + 1) ((gmv f r c p' + 1) * d - 1 - k')) 16 ∧ R' (a + 2) (2 * d * p' + d + k') = R (a + 1) (gst f r c p' * d + k')) ∧ ∀ q j : Nat, ¬ (q = a + 2 ∧ 2 * d * p ≤ j ∧ j < 2 * d * np) → R' q j = R q j := by
  have hnp2 : Qe (w4 ((r : Int) * ((c / 2 : Nat) : Int))) (np : Int) := by
    unfold Qe
    rw [← hnp, w4_of]
    · exact (Int.natCast_mul r (c / 2)).symm
    · rw [← Int.natCast_mul, hnp]
      have : np * 2 ≤ 16 := by rcases hd with rfl | rfl | rfl | rfl <;> omega
      omega
  have hcp : ¬ (((c / 2 : Nat) : Int) ≤ 0) := by
    have : ∀ c ∈ ([2, 4] : List Nat), ¬ (((c / 2 : Nat) : Int) ≤ 0) := by decide
    exact this c hc
  intro n
  induction n with
  | zero => intro p R hi1 hi2 _ _; omega
  | succ n ih =>
    intro p R hi1 hi2 h3 h5
    by_cases hie : (p : Int) = (np : Int)
    · refine ⟨R, fun X => ?_, fun p' k' _ _ => by omega, fun q j _ => rfl⟩
      rw [lp_X3_lay_56, if_neg hcp, hnp2.eq, if_pos (by omega), hie]
    have hp8 : p < 8 := by rcases hd with rfl | rfl | rfl | rfl <;> omega
    obtain ⟨hc0, hm, hs, hm1, hs1⟩ := lay_fsq r hr c hc f hf p hp8 (by omega)
    obtain ⟨n1, n2, n3, n4, n5, n6, n7, n8⟩ := pile_num hd hN hN2 (show p < np by omega) hm1 hs1
    obtain ⟨R1, a1, a2, a3⟩ := pile_eq (a := a) (p3 := 16) h5 hk n1 n2 n3 n4 n5 n6 n7
    have hpp : ∀ q : Nat, ¬ q = a + 2 → R1 q = R q := fun q hq => by
      funext j; exact a3 q j (by omega)
    obtain ⟨R', b1, b2, b3⟩ := ih (p + 1) R1 (by omega) (by omega) (by rw [hpp a (by omega)]; exact h3) (by rw [hpp a (by omega)]; exact h5)
    have e5 : Qe (w4 ((p : Int) + 1)) ((p + 1 : Nat) : Int) := by unfold Qe; rw [w4_of (by omega)]; omega
    refine ⟨R', fun X => ?_, fun p' k' h1 h2 hk' => ?_, fun q j hq => ?_⟩
    · rw [lp_X3_lay_56, if_neg hcp, hnp2.eq, if_neg (by omega), if_pos (by omega)]
      simp only [xlet]
      rw [if_pos (by omega), h3, hm.eq, hs.eq, a1, Option.bind_some, e5.eq]
      exact b1 X
    · by_cases hpe : p' = p
      · subst hpe
        have c1 := b3 (a + 2) (2 * d * p' + k') (by rcases hd with rfl | rfl | rfl | rfl <;> omega)
        have c2 := b3 (a + 2) (2 * d * p' + d + k') (by rcases hd with rfl | rfl | rfl | rfl <;> omega)
        rw [c1, c2]
        exact a2 k' hk'
      · have := b2 p' k' (by omega) h2 hk'
        rw [hpp (a + 1) (by omega)] at this
        exact this
    · rw [b3 q j (by rcases hd with rfl | rfl | rfl | rfl <;> omega), a3 q j (by rcases hd with rfl | rfl | rfl | rfl <;> omega)]
theorem lay561_lp {a : Nat} {f r c k d np : Nat} (hr : r ∈ [2, 4]) (hc : c ∈ [1, 2, 4]) (hf : f ∈ [3, 4]) (hd : d = 1 ∨ d = 2 ∨ d = 4 ∨ d = 8) (hk : b4shl 1 (k : Int) = (d : Int)) (hnp : (r / 2) * c = np) (hN : np * 2 = r * c) (hN2 : r * c * d ≤ 16) :
    ∀ (n p : Nat) (R : xN), p ≤ np → np - p < n → R a 2 = (r : Int) → R a 3 = (c : Int) → R a 5 = (k : Int) → ∃ R', (∀ X : Int → xN → Option xN, lp_X3_lay_56_1 a (f : Int) ((r / 2 : Nat) : Int) (c : Int) n (p : Int) R X = X (np : Int) R') ∧ (∀ p' k' : Nat, p ≤ p' → p' < np → k' < d → R' (a + 2) (2 * d * p' + k') = b4xor (R (a + 1) ((gmv f r c p' + 1) * d - 1 - k')) 32 ∧ R' (a + 2) (2 * d * p' + d + k') = R (a + 1) (gst f r c p' * d + k')) ∧ ∀ q j : Nat, ¬ (q = a + 2 ∧ 2 * d * p ≤ j ∧ j < 2 * d * np) → R' q j = R q j := by
  have hnp2 : Qe (w4 (((r / 2 : Nat) : Int) * (c : Int))) (np : Int) := by
    unfold Qe
    rw [← hnp, w4_of]
    · exact (Int.natCast_mul (r / 2) c).symm
    · rw [← Int.natCast_mul, hnp]
      have : np * 2 ≤ 16 := by rcases hd with rfl | rfl | rfl | rfl <;> omega
      omega
  have hc0 : ¬ ((c : Int) = 0) := by
    have : ∀ c ∈ ([1, 2, 4] : List Nat), ¬ (((c : Nat) : Int) = 0) := by decide
    exact this c hc
  have hcp : ¬ ((c : Int) ≤ 0) := by
    have : ∀ c ∈ ([1, 2, 4] : List Nat), ¬ (((c : Nat) : Int) ≤ 0) := by decide
    exact this c hc
  intro n
  induction n with
  | zero => intro p R hi1 hi2 _ _ _; omega
  | succ n ih =>
    intro p R hi1 hi2 h2' h3 h5
    by_cases hie : (p : Int) = (np : Int)
    · refine ⟨R, fun X => ?_, fun p' k' _ _ => by omega, fun q j _ => rfl⟩
      rw [lp_X3_lay_56_1, if_neg hcp, hnp2.eq, if_pos (by omega), hie]
    have hp8 : p < 8 := by rcases hd with rfl | rfl | rfl | rfl <;> omega
    obtain ⟨hm, hs, hm1, hs1⟩ := lay_fvq r hr c hc f hf p hp8 (by omega)
    obtain ⟨n1, n2, n3, n4, n5, n6, n7, n8⟩ := pile_num hd hN hN2 (show p < np by omega) hm1 hs1
    obtain ⟨R1, a1, a2, a3⟩ := pile_eq (a := a) (p3 := 32) h5 hk n1 n2 n3 n4 n5 n6 n7
    have hpp : ∀ q : Nat, ¬ q = a + 2 → R1 q = R q := fun q hq => by
      funext j; exact a3 q j (by omega)
    obtain ⟨R', b1, b2, b3⟩ := ih (p + 1) R1 (by omega) (by omega) (by rw [hpp a (by omega)]; exact h2') (by rw [hpp a (by omega)]; exact h3) (by rw [hpp a (by omega)]; exact h5)
    have e5 : Qe (w4 ((p : Int) + 1)) ((p + 1 : Nat) : Int) := by unfold Qe; rw [w4_of (by omega)]; omega
    refine ⟨R', fun X => ?_, fun p' k' h1 h2 hk' => ?_, fun q j hq => ?_⟩
    · rw [lp_X3_lay_56_1, if_neg hcp, hnp2.eq, if_neg (by omega), if_pos hc0]
      simp only [xlet]
      rw [if_pos hc0, h2', h3, hm.eq, hs.eq, a1, Option.bind_some, e5.eq]
      exact b1 X
    · by_cases hpe : p' = p
      · subst hpe
        have c1 := b3 (a + 2) (2 * d * p' + k') (by rcases hd with rfl | rfl | rfl | rfl <;> omega)
        have c2 := b3 (a + 2) (2 * d * p' + d + k') (by rcases hd with rfl | rfl | rfl | rfl <;> omega)
        rw [c1, c2]
        exact a2 k' hk'
      · have := b2 p' k' (by omega) h2 hk'
        rw [hpp (a + 1) (by omega)] at this
        exact this
    · rw [b3 q j (by rcases hd with rfl | rfl | rfl | rfl <;> omega), a3 q j (by rcases hd with rfl | rfl | rfl | rfl <;> omega)]

