/-! The history keeps and brings back. -/
/-- the state at a in R' is the one at b in R -/
def sEq (R' R : xN) (a b : Nat) : Prop := R' a 2 = R b 2 ∧ (∀ k j : Nat, k < 14 → dc k j = true → R' (a + 1 + k) j = R (b + 1 + k) j) ∧ ∀ t : Nat, t < 2 → sbit (R b 2) t = true → ∀ k j : Nat, k < 14 → dc k j = true → R' (a + 16 + 14 * t + k) j = R (b + 16 + 14 * t + k) j
def sFil (R : xN) (b : Nat) : Prop := R b 2 = 0 ∨ R b 2 = 1 ∨ R b 2 = 2 ∨ R b 2 = 3
def sOut (R' R : xN) (a : Nat) : Prop := ∀ q j : Nat, (q < a ∨ a + 44 ≤ q) → R' q j = R q j
theorem scopy2 {R : xN} {a b : Nat} (h : a + 44 ≤ b ∨ b + 44 ≤ a) (hv : sFil R b) : ∃ R', f_X8_copyFrom a b R = some R' ∧ sEq R' R a b ∧ sOut R' R a := by
  obtain ⟨R', h1, h2, h3, h4, h5⟩ := scopy h hv
  exact ⟨R', h1, ⟨h2, h3, h4⟩, h5⟩
theorem sEq.trans {R3 R2 R1 : xN} {a b c : Nat} (h : sEq R3 R2 a b) (g : sEq R2 R1 b c) : sEq R3 R1 a c :=
  ⟨h.1.trans g.1, fun k j hk hd => (h.2.1 k j hk hd).trans (g.2.1 k j hk hd), fun t ht hs k j hk hd => (h.2.2 t ht (by rw [g.1]; exact hs) k j hk hd).trans (g.2.2 t ht hs k j hk hd)⟩
theorem sEq.of {R' R : xN} {a : Nat} (h : ∀ q j : Nat, a ≤ q → q < a + 44 → R' q j = R q j) : sEq R' R a a :=
  ⟨h a 2 (by omega) (by omega), fun k j hk _ => h _ j (by omega) (by omega), fun t ht _ k j hk _ => h _ j (by omega) (by omega)⟩
/-- the history's row of states -/
def iHist (R : xN) : Prop := 0 ≤ R 45 1 ∧ R 45 1 ≤ 5 ∧ (∀ k : Nat, k < 6 → ∃ i : Nat, i < 6 ∧ R 46 k = ((47 + 44 * i : Nat) : Int)) ∧ ∀ k k' : Nat, k < 6 → k' < 6 → R 46 k = R 46 k' → k = k'
theorem xsta_at {i : Nat} (hi : i < 6) : xsta 45 ((47 + 44 * i : Nat) : Int) = true := by
  have : i = 0 ∨ i = 1 ∨ i = 2 ∨ i = 3 ∨ i = 4 ∨ i = 5 := by omega
  rcases this with rfl | rfl | rfl | rfl | rfl | rfl <;> decide
theorem hkeep {R : xN} (h : iHist R) (hv : sFil R 1) : ∃ R', f_X1_keep 45 1 R = some R' ∧ sEq R' R (R 46 (R 45 1).toNat).toNat 1 ∧ sOut R' R (R 46 (R 45 1).toNat).toNat := by
  obtain ⟨h0, h1, h2, h3⟩ := h
  obtain ⟨i, hi, he⟩ := h2 (R 45 1).toNat (by omega)
  obtain ⟨R', p1, p2, p3⟩ := scopy2 (R := R) (a := 47 + 44 * i) (b := 1) (by omega) hv
  refine ⟨R', ?_, by rw [he, Int.toNat_natCast]; exact p2, by rw [he, Int.toNat_natCast]; exact p3⟩
  unfold f_X1_keep
  rw [in9, Option.bind_some, if_pos (decide_eq_true ⟨h0, h1⟩), show 45 + 1 = 46 from rfl, he, if_pos ⟨h0, by omega, xsta_at hi⟩, Int.toNat_natCast, p1]
  rfl
theorem hback {R : xN} (h : iHist R) (hv : sFil R (R 46 (R 45 1).toNat).toNat) : ∃ R', f_X1_bringBack 45 1 R = some R' ∧ sEq R' R 1 (R 46 (R 45 1).toNat).toNat ∧ sOut R' R 1 := by
  obtain ⟨h0, h1, h2, h3⟩ := h
  obtain ⟨i, hi, he⟩ := h2 (R 45 1).toNat (by omega)
  rw [he, Int.toNat_natCast] at hv ⊢
  obtain ⟨R', p1, p2, p3⟩ := scopy2 (R := R) (a := 1) (b := 47 + 44 * i) (by omega) hv
  refine ⟨R', ?_, p2, p3⟩
  unfold f_X1_bringBack
  rw [in9, Option.bind_some, if_pos (decide_eq_true ⟨h0, h1⟩), show 45 + 1 = 46 from rfl, he, if_pos ⟨h0, by omega, xsta_at hi⟩, Int.toNat_natCast, p1]
  rfl

