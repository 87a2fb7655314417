/-! Geometry: tables of layers, folded; the class's fold. -/
theorem at3 {a i : Nat} {R : xN} (h : i < 16) : f_X3_at a (i : Int) R = some (R (a + 1) i) := by
  unfold f_X3_at
  rw [if_neg (by omega), if_neg (by omega), if_pos (by omega), Int.toNat_natCast]
def Qe (a b : Int) : Prop := a = b
theorem Qe.eq {a b : Int} (h : Qe a b) : a = b := h
theorem w4n {n : Nat} (h : n ≤ 2147483647) : w4 (n : Int) = (n : Int) := w4_of (by omega)
theorem shl1 : ∀ k : Nat, k < 5 → b4shl 1 (k : Int) = ((2 ^ k : Nat) : Int) := by decide +kernel
theorem bxo : ∀ n : Nat, n < 64 → b4xor (n : Int) 16 = ((n ^^^ 16 : Nat) : Int) ∧ b4xor (n : Int) 32 = ((n ^^^ 32 : Nat) : Int) := by decide +kernel
theorem pile_lp {a : Nat} {p1 p2 p3 p4 : Int} {B M S d : Nat} (hB : Qe (w4 ((w4 (p1 * (d : Int))) * 2)) (B : Int)) (hM : Qe (w4 ((w4 ((w4 (p2 + 1)) * (d : Int))) - 1)) (M : Int)) (hS : Qe (w4 (p4 * (d : Int))) (S : Int)) (h1 : B + 2 * d ≤ 16) (h2 : M < 16) (h3 : d ≤ M + 1) (h4 : S + d ≤ 16) :
    ∀ (n i : Nat) (R : xN), i ≤ d → d - i < n → ∃ R', (∀ X : Int → xN → Option xN, lp_X3_pile_9 a p1 p2 p3 p4 (d : Int) n (i : Int) R X = X (d : Int) R') ∧ (∀ k : Nat, i ≤ k → k < d → R' (a + 2) (B + k) = b4xor (R (a + 1) (M - k)) p3 ∧ R' (a + 2) (B + d + k) = R (a + 1) (S + k)) ∧ ∀ q j : Nat, ¬ (q = a + 2 ∧ B + i ≤ j ∧ j < B + 2 * d ∧ ¬ (B + d ≤ j ∧ j < B + d + i)) → R' q j = R q j := by
  intro n
  induction n with
  | zero => intro i R hi1 hi2; omega
  | succ n ih =>
    intro i R hi1 hi2
    by_cases hie : (i : Int) = (d : Int)
    · refine ⟨R, fun X => ?_, fun k _ _ => by omega, fun q j _ => rfl⟩
      rw [lp_X3_pile_9, if_pos (by omega), hie]
    have e1 : Qe (w4 ((B : Int) + (i : Int))) ((B + i : Nat) : Int) := by unfold Qe; rw [w4_of (by omega)]; omega
    have e2 : Qe (w4 (((B + i : Nat) : Int) + (d : Int))) ((B + d + i : Nat) : Int) := by unfold Qe; rw [w4_of (by omega)]; omega
    have e3 : Qe (w4 ((M : Int) - (i : Int))) ((M - i : Nat) : Int) := by unfold Qe; rw [w4_of (by omega)]; omega
    have e4 : Qe (w4 ((S : Int) + (i : Int))) ((S + i : Nat) : Int) := by unfold Qe; rw [w4_of (by omega)]; omega
    have e5 : Qe (w4 ((i : Int) + 1)) ((i + 1 : Nat) : Int) := by unfold Qe; rw [w4_of (by omega)]; omega
    obtain ⟨R', p1', p2', p3'⟩ := ih (i + 1) (xup (xup R (a + 2) (B + i) (b4xor (R (a + 1) (M - i)) p3)) (a + 2) (B + d + i) (R (a + 1) (S + i))) (by omega) (by omega)
    have na : ¬ (a + 1 = a + 2) := by omega
    refine ⟨R', fun X => ?_, fun k hk1 hk2 => ?_, fun q j hq => ?_⟩
    · rw [lp_X3_pile_9, if_neg (by omega)]
      simp only [hB.eq, hM.eq, hS.eq, e1.eq, e2.eq, e3.eq, e4.eq, e5.eq, xlet]
      rw [if_neg (by omega), if_neg (by omega), at3 (by omega), Option.bind_some, if_pos (by omega), at3 (by omega), Option.bind_some, if_pos (by omega), xup_get, if_neg na, Int.toNat_natCast, Int.toNat_natCast]
      exact p1' X
    · by_cases hk : k = i
      · subst hk
        have a1 := p3' (a + 2) (B + k) (by omega)
        have a2 := p3' (a + 2) (B + d + k) (by omega)
        refine ⟨?_, ?_⟩
        · rw [a1, xup_get, if_pos rfl, if_neg (by omega), xup_get, if_pos rfl, if_pos rfl]
        · rw [a2, xup_get, if_pos rfl, if_pos rfl]
      · have := p2' k (by omega) hk2
        simpa only [xup_get, if_neg na] using this
    · rw [p3' q j (by omega), xup_get, xup_get]
      by_cases hq2 : q = a + 2
      · rw [if_pos hq2, if_neg (by omega), if_pos hq2, if_neg (by omega)]
      · rw [if_neg hq2, if_neg hq2]
theorem pile_eq {a : Nat} {p1 p2 p3 p4 : Int} {B M S d k : Nat} {R : xN} (hk : R a 5 = (k : Int)) (hd : b4shl 1 (k : Int) = (d : Int)) (hB : Qe (w4 ((w4 (p1 * (d : Int))) * 2)) (B : Int)) (hM : Qe (w4 ((w4 ((w4 (p2 + 1)) * (d : Int))) - 1)) (M : Int)) (hS : Qe (w4 (p4 * (d : Int))) (S : Int)) (h1 : B + 2 * d ≤ 16) (h2 : M < 16) (h3 : d ≤ M + 1) (h4 : S + d ≤ 16) :
    ∃ R', f_X3_pile a p1 p2 p3 p4 R = some R' ∧ (∀ k : Nat, k < d → R' (a + 2) (B + k) = b4xor (R (a + 1) (M - k)) p3 ∧ R' (a + 2) (B + d + k) = R (a + 1) (S + k)) ∧ ∀ q j : Nat, ¬ (q = a + 2 ∧ B ≤ j ∧ j < B + 2 * d) → R' q j = R q j := by
  obtain ⟨R', g1, g2, g3⟩ := pile_lp (a := a) (p3 := p3) hB hM hS h1 h2 h3 h4 6000 0 R (by omega) (by omega)
  refine ⟨R', ?_, fun k hk => g2 k (by omega) hk, fun q j hq => g3 q j (by omega)⟩
  unfold f_X3_pile f_X3_depth
  rw [hk, hd, Option.bind_some]
  exact g1 _

