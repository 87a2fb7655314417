/-! A state is copied. -/
def sbit (v : Int) (t : Nat) : Bool := if t = 0 then decide (v = 1 ∨ v = 3) else decide (v = 2 ∨ v = 3)
theorem isin9 {v : Int} {R : xN} {t : Nat} (hv : v = 0 ∨ v = 1 ∨ v = 2 ∨ v = 3) (ht : t < 2) : f_X9_isInSet (t : Int) v R = some (sbit v t) := by
  have : t = 0 ∨ t = 1 := by omega
  rcases this with rfl | rfl <;> rcases hv with rfl | rfl | rfl | rfl <;> rfl
theorem sc_step {a b n t : Nat} {R : xN} {X : Int → xN → Option xN} {v : Int} (ht : t < 2) (h : a + 44 ≤ b ∨ b + 44 ≤ a) (hv : v = 0 ∨ v = 1 ∨ v = 2 ∨ v = 3) (he : R a 2 = v) : ∃ R', lp_X8_copyFrom_21 a b (n + 1) (t : Int) R X = lp_X8_copyFrom_21 a b n ((t + 1 : Nat) : Int) R' X ∧ (sbit v t = true → ∀ k j : Nat, k < 14 → dc k j = true → R' (a + 16 + 14 * t + k) j = R (b + 16 + 14 * t + k) j) ∧ ∀ q j : Nat, (q < a + 16 + 14 * t ∨ a + 16 + 14 * t + 14 ≤ q) → R' q j = R q j := by
  have e1 : w4 ((t : Int) + 1) = ((t + 1 : Nat) : Int) := by rw [w4_of (by omega)]; omega
  by_cases hb : sbit v t = true
  · obtain ⟨R', h1, h2, h3⟩ := dcopy (R := R) (a := a + 16 + 14 * t) (b := b + 16 + 14 * t) (by omega)
    refine ⟨R', ?_, fun _ => h2, h3⟩
    rw [lp_X8_copyFrom_21, if_neg (by omega), he, isin9 hv ht, Option.bind_some, if_pos hb, if_pos (by omega), if_pos (by omega)]
    rw [show ((t : Int)).toNat = t by omega, h1, Option.bind_some]
    simp only [xlet, e1]
  · refine ⟨R, ?_, fun q => absurd q hb, fun q j _ => rfl⟩
    rw [lp_X8_copyFrom_21, if_neg (by omega), he, isin9 hv ht, Option.bind_some, if_neg hb]
    simp only [xlet, e1]
theorem scopy {R : xN} {a b : Nat} (h : a + 44 ≤ b ∨ b + 44 ≤ a) (hv : R b 2 = 0 ∨ R b 2 = 1 ∨ R b 2 = 2 ∨ R b 2 = 3) : ∃ R', f_X8_copyFrom a b R = some R' ∧ R' a 2 = R b 2 ∧ (∀ k j : Nat, k < 14 → dc k j = true → R' (a + 1 + k) j = R (b + 1 + k) j) ∧
    (∀ t : Nat, t < 2 → sbit (R b 2) t = true → ∀ k j : Nat, k < 14 → dc k j = true → R' (a + 16 + 14 * t + k) j = R (b + 16 + 14 * t + k) j) ∧ ∀ q j : Nat, (q < a ∨ a + 44 ≤ q) → R' q j = R q j := by
  obtain ⟨R1, p1, p2, p3⟩ := dcopy (R := R) (a := a + 1) (b := b + 1) (by omega)
  have hb2 : R1 b 2 = R b 2 := p3 b 2 (by omega)
  have u2 : xup R1 a 2 (R1 b 2) a 2 = R b 2 := by rw [xup_get, if_pos rfl, if_pos rfl, hb2]
  have uq : ∀ q j, q ≠ a → xup R1 a 2 (R1 b 2) q j = R1 q j := fun q j hq => by rw [xup_get, if_neg hq]
  obtain ⟨R3, q1, q2, q3⟩ := sc_step (t := 0) (n := 5999) (R := xup R1 a 2 (R1 b 2)) (X := fun _ R12 => some R12) (by decide) h hv u2
  obtain ⟨R4, r1, r2, r3⟩ := sc_step (t := 1) (n := 5998) (R := R3) (X := fun _ R12 => some R12) (by decide) h hv (by rw [q3 a 2 (by omega), u2])
  refine ⟨R4, ?_, ?_, fun k j hk hd => ?_, fun t ht hs k j hk hd => ?_, fun q j hq => ?_⟩
  · unfold f_X8_copyFrom
    rw [p1, Option.bind_some]
    simp only [xlet]
    have q1' : lp_X8_copyFrom_21 a b 6000 0 (xup R1 a 2 (R1 b 2)) (fun _ R12 => some R12) = _ := q1
    rw [q1']
    have r1' : lp_X8_copyFrom_21 a b 5999 ((0 + 1 : Nat) : Int) R3 (fun _ R12 => some R12) = _ := r1
    rw [r1']
    rfl
  · rw [r3 a 2 (by omega), q3 a 2 (by omega), u2]
  · rw [r3 _ j (by omega), q3 _ j (by omega), uq _ j (by omega)]
    exact p2 k j hk hd
  · have : t = 0 ∨ t = 1 := by omega
    rcases this with rfl | rfl
    · rw [r3 _ j (by omega), q2 hs k j hk hd, uq _ j (by omega), p3 _ j (by omega)]
    · rw [r2 hs k j hk hd, q3 _ j (by omega), uq _ j (by omega), p3 _ j (by omega)]
  · rw [r3 q j (by omega), q3 q j (by omega), uq q j (by omega), p3 q j (by omega)]

