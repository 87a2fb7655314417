/-! The model lays the sheet: open, now, by a number. -/
/-- nothing but the model's scratch of layers -/
def kLay (R R' : xN) : Prop := ∀ q j : Nat, ¬ (q = 323 ∧ 7 ≤ j ∧ j ≤ 9) → ¬ (328 ≤ q ∧ q < 336) → R' q j = R q j
theorem kLay.trans {R R1 R2 : xN} (h : kLay R R1) (g : kLay R1 R2) : kLay R R2 := fun q j h1 h2 => by rw [g q j h1 h2, h q j h1 h2]
theorem z0 : ((0 : Nat) : Int) = 0 := rfl
theorem xlet_eq {α β : Type} {a : α} {f : α → β} : xlet a f = f a := rfl
