/-! An action: the class keeps, does and settles; the model acts. -/
def err (r : Int) : Prop := -3 ≤ r ∧ r ≤ -1
def kDesk (R R' : xN) : Prop := ∀ q j : Nat, ¬ (1 ≤ q ∧ q < 45) → ¬ (311 ≤ q ∧ q < 314) → R' q j = R q j
def sSp : Type := (Nat → Int) → Int × (Nat → Int)
def cSpec (f : xN → Option (Int × xN)) (sp : sSp) : Prop := ∀ (R : xN) (s : Nat → Int), SR R 1 s → ∃ R', f R = some ((sp s).1, R') ∧ kDesk R R' ∧ SR R' 1 (sp s).2
theorem iHist.of {R R' : xN} (h : iHist R) (h1 : R' 45 1 = R 45 1) (h2 : ∀ k : Nat, k < 6 → R' 46 k = R 46 k) : iHist R' := by
  obtain ⟨a, b, c, d⟩ := h
  refine ⟨by rw [h1]; exact a, by rw [h1]; exact b, fun k hk => by rw [h2 k hk]; exact c k hk, fun k k' hk hk' e => d k k' hk hk' ?_⟩
  rw [h2 k hk, h2 k' hk'] at e
  exact e
theorem iText.of {R R' : xN} (h : iText R) (h1 : R' 0 5 = R 0 5) (h2 : R' 323 4 = R 323 4) (h3 : ∀ j : Nat, R' 319 j = R 319 j) (h4 : ∀ j : Nat, R' 327 j = R 327 j) : iText R' := by
  obtain ⟨a, b, c, d⟩ := h
  refine ⟨by rw [h1]; exact a, by rw [h1]; exact b, by rw [h2, h1]; exact c, fun j hj => ?_⟩
  rw [h1] at hj
  rw [h3, h4]
  exact d j hj
