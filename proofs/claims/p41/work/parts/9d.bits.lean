/-! Sets of sixteen, as numbers. -/
def cK : Nat → Nat → Nat
  | 0, _ => 0
  | k + 1, v => cK k v + v / 2 ^ k % 2
theorem cK_half : ∀ (k v : Nat), cK (k + 1) v = v % 2 + cK k (v / 2) := by
  intro k
  induction k with
  | zero =>
    intro v
    show 0 + v / 2 ^ 0 % 2 = v % 2 + 0
    rw [Nat.pow_zero, Nat.div_one]
    omega
  | succ k ih =>
    intro v
    show cK (k + 1) v + v / 2 ^ (k + 1) % 2 = v % 2 + (cK k (v / 2) + v / 2 / 2 ^ k % 2)
    rw [ih, Nat.div_div_eq_div_mul, Nat.pow_succ, Nat.mul_comm (2 ^ k) 2]
    omega
theorem and_par {a b : Nat} : (a &&& b) % 2 = if a % 2 = 1 ∧ b % 2 = 1 then 1 else 0 := by
  have h : (a &&& b).testBit 0 = (a.testBit 0 && b.testBit 0) := Nat.testBit_and a b 0
  rw [Nat.testBit_zero, Nat.testBit_zero, Nat.testBit_zero] at h
  by_cases ha : a % 2 = 1
  · by_cases hb : b % 2 = 1
    · rw [decide_eq_true ha, decide_eq_true hb] at h
      rw [if_pos ⟨ha, hb⟩]
      exact of_decide_eq_true h
    · rw [decide_eq_true ha, decide_eq_false hb] at h
      rw [if_neg (fun x => hb x.2)]
      have := of_decide_eq_false h
      omega
  · rw [decide_eq_false ha, Bool.false_and] at h
    rw [if_neg (fun x => ha x.1)]
    have := of_decide_eq_false h
    omega
theorem cK_lows : ∀ (k n : Nat), n ≠ 0 → n < 2 ^ k → cK k n = cK k (n &&& (n - 1)) + 1 := by
  intro k
  induction k with
  | zero => intro n h0 h; rw [Nat.pow_zero] at h; omega
  | succ k ih =>
    intro n h0 h
    rw [Nat.pow_succ] at h
    have hp : (n &&& (n - 1)) % 2 = 0 := by rw [and_par, if_neg (by omega)]
    have hd : (n &&& (n - 1)) / 2 = (n / 2) &&& ((n - 1) / 2) := Nat.and_div_two
    rw [cK_half, cK_half, hp, hd]
    by_cases ho : n % 2 = 1
    · rw [show (n - 1) / 2 = n / 2 by omega, Nat.and_self, ho]
      omega
    · have := ih (n / 2) (by omega) (by omega)
      rw [show (n - 1) / 2 = n / 2 - 1 by omega]
      omega
theorem cK_low {n : Nat} (h0 : n ≠ 0) (h : n < 65536) : cK 16 n = cK 16 (n &&& (n - 1)) + 1 := cK_lows 16 n h0 h

