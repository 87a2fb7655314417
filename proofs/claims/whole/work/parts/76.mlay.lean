/-! The model lays the sheet: open, now, by a number. -/
/-- nothing but the model's scratch of layers -/
def kLay (R R' : xN) : Prop := ∀ q j : Nat, ¬ (q = 323 ∧ 7 ≤ j ∧ j ≤ 9) → ¬ (328 ≤ q ∧ q < 336) → R' q j = R q j
theorem kLay.trans {R R1 R2 : xN} (h : kLay R R1) (g : kLay R1 R2) : kLay R R2 := fun q j h1 h2 => by rw [g q j h1 h2, h q j h1 h2]
theorem kLay.refl {R : xN} : kLay R R := fun _ _ _ _ => rfl
theorem z0 : ((0 : Nat) : Int) = 0 := rfl
theorem xlet_eq {α β : Type} {a : α} {f : α → β} : xlet a f = f a := rfl
theorem lop_step {i m : Nat} {R : xN} {X : Int → xN → Option xN} (hi : i < 16) : lp_X10_layOpen_27 323 (m + 1) (i : Int) R X = lp_X10_layOpen_27 323 m ((i + 1 : Nat) : Int) (xup (xup (xup (xup R 328 i (i : Int)) 329 i 0) 330 i 0) 331 i 0) X := by
  have c1 : (0 : Int) ≤ (i : Int) ∧ (i : Int) < 16 := by omega
  have e5 : Qe (w4 ((i : Int) + 1)) ((i + 1 : Nat) : Int) := by unfold Qe; rw [w4_of (by omega)]; omega
  rw [lp_X10_layOpen_27, if_neg (by omega)]
  simp only [xlet, if_pos c1, Int.toNat_natCast, e5.eq]
theorem lop_lp : ∀ (n i : Nat) (R : xN), i ≤ 16 → 16 - i < n → ∃ R', (∀ X : Int → xN → Option xN, lp_X10_layOpen_27 323 n (i : Int) R X = X 16 R') ∧ (∀ k : Nat, i ≤ k → k < 16 → R' 328 k = (k : Int) ∧ R' 329 k = 0 ∧ R' 330 k = 0 ∧ R' 331 k = 0) ∧ ∀ q j : Nat, ¬ (328 ≤ q ∧ q < 332 ∧ i ≤ j) → R' q j = R q j := by
  intro n
  induction n with
  | zero => intro i R hi1 hi2; omega
  | succ n ih =>
    intro i R hi1 hi2
    by_cases hie : (i : Int) = 16
    · refine ⟨R, fun X => ?_, fun k _ _ => by omega, fun q j _ => rfl⟩
      rw [lp_X10_layOpen_27, if_pos (by omega), hie]
    · obtain ⟨R', b1, b2, b3⟩ := ih (i + 1) (xup (xup (xup (xup R 328 i (i : Int)) 329 i 0) 330 i 0) 331 i 0) (by omega) (by omega)
      refine ⟨R', fun X => (lop_step (by omega)).trans (b1 X), fun k hk hk2 => ?_, fun q j hq => ?_⟩
      · by_cases hki : k = i
        · subst hki
          rw [b3 328 k (by omega), b3 329 k (by omega), b3 330 k (by omega), b3 331 k (by omega)]
          simp [xup_get]
        · exact b2 k (by omega) hk2
      · rw [b3 q j (by omega)]
        simp only [xup_get]
        by_cases hj : j = i
        · rw [if_neg (by omega), if_neg (by omega), if_neg (by omega), if_neg (by omega)]
        · simp [hj]
theorem open_facts : ∀ W ∈ ([1, 2, 4] : List Nat), ∀ i : Nat, i < 16 → i < 4 * W → cel W (gt0 W i) = i ∧ sid (gt0 W i) = 0 ∧ mir (gt0 W i) = 0 ∧ ups (gt0 W i) = 0 := by decide +kernel
theorem lop_eq {R : xN} {H W : Nat} (hH : len H) (hW : len W) (h0 : R 324 0 = (H : Int)) (h1 : R 324 1 = (W : Int)) : ∃ R', f_X10_layOpen 323 R = some R' ∧ MRg R' H W (gg0 H W) ∧ kLay R R' := by
  obtain ⟨R', b1, b2, b3⟩ := lop_lp 6000 0 (xup (xup (xup R 323 7 (H : Int)) 323 8 (W : Int)) 323 9 1) (by omega) (by omega)
  refine ⟨R', ?_, ⟨?_, ?_, ?_, fun i hi => ?_⟩, fun q j g1 g2 => ?_⟩
  · unfold f_X10_layOpen
    rw [xlet_eq, xlet_eq, xlet_eq, show 323 + 1 = 324 from rfl]
    have : (xup R 323 7 (H : Int)) 324 1 = (W : Int) := by simp [xup_get, h1]
    rw [z0] at b1
    rw [h0, this, b1]
  · rw [b3 323 7 (by omega)]; simp [xup_get, gg0]
  · rw [b3 323 8 (by omega)]; simp [xup_get, gg0]
  · rw [b3 323 9 (by omega)]; simp [xup_get, gg0]
  · have hi4 : i < 4 * W ∧ i < 16 := by rcases hH with rfl | rfl | rfl <;> rcases hW with rfl | rfl | rfl <;> omega
    obtain ⟨o1, o2, o3, o4⟩ := open_facts W (len_mem hW) i hi4.2 hi4.1
    obtain ⟨c1, c2, c3, c4⟩ := b2 i (by omega) hi4.2
    show R' 328 i = (cel W (gt0 W i) : Int) ∧ R' 329 i = (sid (gt0 W i) : Int) ∧ R' 330 i = (mir (gt0 W i) : Int) ∧ R' 331 i = (ups (gt0 W i) : Int)
    rw [o1, o2, o3, o4, c1, c2, c3, c4]
    exact ⟨rfl, rfl, rfl, rfl⟩
  · rw [b3 q j (by omega)]
    simp only [xup_get]
    by_cases hq : q = 323
    · rw [if_pos hq, if_neg (by omega), if_pos hq, if_neg (by omega), if_pos hq, if_neg (by omega)]
    · rw [if_neg hq, if_neg hq, if_neg hq]
