/-! A run that went well is one step of the history. -/
theorem rec_of {R R' : xN} (h6 : R 323 6 = 0) (h : f_X10_act 323 R = some R') : f_X10_record 323 R = some R' := by
  unfold f_X10_act at h
  rw [if_pos h6] at h
  cases hr : f_X10_record 323 R with
  | none =>
    rw [hr] at h
    have h2 : (none : Option xN) = some R' := h
    cases h2
  | some v => rw [hr, Option.bind_some] at h; exact h
theorem push_inv {R Re : xN} {s' : Nat → Int} {cnt : Int} {i : Nat} (hI : Inv R) (hc : 0 ≤ cnt) (hi : i < 6) (he : R 46 (R 45 1).toNat = ((47 + 44 * i : Nat) : Int)) (f : ∀ q j : Nat, q ≠ 0 → ¬ (1 ≤ q ∧ q < 45) → ¬ (47 + 44 * i ≤ q ∧ q < 47 + 44 * i + 44) → ¬ (311 ≤ q ∧ q < 323) → Re q j = R q j) (sp2 : SR Re (47 + 44 * i) (R 324)) (sn : SR Re 1 s') (h05 : Re 0 5 = 0) : ∃ R1, f_X1_settle 45 cnt Re = some (cnt, R1) ∧ (∀ q j : Nat, q ≠ 45 → q ≠ 46 → R1 q j = Re q j) ∧ ∀ Rx : xN, (∀ q j : Nat, q < 323 → Rx q j = R1 q j) → Rx 323 6 = 0 → Rx 323 3 = R 323 3 → (∀ j : Nat, j < 464 → Rx 324 j = R 324 j) → (∀ j : Nat, Rx 325 j = R 325 j) → ∃ Ry, f_X10_record 323 Rx = some Ry ∧ (∀ q j : Nat, ¬ (q = 323 ∧ j = 3) → q ≠ 325 → Ry q j = Rx q j) ∧ ∀ Rz : xN, (∀ q j : Nat, q ≠ 324 → ¬ (q = 323 ∧ j = 4) → Rz q j = Ry q j) → Rz 323 4 = 0 → (∀ j : Nat, j < 464 → Rz 324 j = s' j) → Inv Rz := by
  obtain ⟨i1, i2, i3, i4, i5, i6⟩ := hI
  have n0 := i2.1
  have n5 := i2.2.1
  have hr : ¬ (-3 ≤ cnt ∧ cnt ≤ -1) := by omega
  have old : ∀ k : Nat, (k : Int) < R 45 1 → SR Re (R 46 k).toNat (fun j => R 325 (464 * k + j)) ∧ ∃ ik : Nat, ik < 6 ∧ R 46 k = ((47 + 44 * ik : Nat) : Int) := fun k hk => by
    obtain ⟨ik, hik, hek⟩ := i2.2.2.1 k (by omega)
    refine ⟨?_, ik, hik, hek⟩
    have hne : ik ≠ i := fun h => by
      have := i2.2.2.2 k (R 45 1).toNat (by omega) (by omega) (by rw [hek, he, h])
      omega
    have := i6 k hk
    rw [hek, Int.toNat_natCast] at this ⊢
    exact this.out (fun q j h1 h2 => f q j (by omega) (by omega) (by omega) (by omega))
  by_cases hn : R 45 1 < 5
  · have h45 : Re 45 1 = R 45 1 := f 45 1 (by omega) (by omega) (by omega) (by omega)
    have hset := settle_grow (R := Re) hr (by omega) (by omega)
    rw [h45] at hset
    obtain ⟨n, hnn⟩ := Int.eq_ofNat_of_zero_le n0
    refine ⟨xup Re 45 1 (R 45 1 + 1), hset, fun q j g1 g2 => xup_nn (by omega), fun Rx x1 x2 x3 x4 x5 => ?_⟩
    obtain ⟨Rb, c1, c2, c3, c4⟩ := act_grow (U := n) x2 (by omega) (by rw [x3, i5, hnn])
    refine ⟨Rb, rec_of x2 c1, fun q j g1 g2 => c4 q j (by omega) g1, fun Rz z1 z2 z3 => ?_⟩
    have fr : ∀ q j : Nat, q < 323 → ¬ (q = 45 ∧ j = 1) → Rz q j = Re q j := fun q j hq h => by rw [z1 q j (by omega) (by omega), c4 q j (by omega) (by omega), x1 q j hq, xup_nn h]
    have f45 : Rz 45 1 = R 45 1 + 1 := by rw [z1 45 1 (by omega) (by omega), c4 45 1 (by omega) (by omega), x1 45 1 (by omega), xup_eq]
    have f46 : ∀ k : Nat, Rz 46 k = R 46 k := fun k => by rw [fr 46 k (by omega) (by omega), f 46 k (by omega) (by omega) (by omega) (by omega)]
    refine ⟨?_, ?_, ?_, ?_, ?_, fun k hk => ?_⟩
    · exact (sn.sg z3).out (fun q j h1 h2 => fr q j (by omega) (by omega))
    · obtain ⟨-, -, u3, u4⟩ := i2
      refine ⟨by omega, by omega, fun k hk => by rw [f46]; exact u3 k hk, fun k k' hk hk' e => u4 k k' hk hk' (by rw [f46, f46] at e; exact e)⟩
    · have h0 : Rz 0 5 = 0 := by rw [fr 0 5 (by omega) (by omega), h05]
      exact ⟨by omega, by omega, by rw [z2, h0], fun j hj => by rw [h0] at hj; omega⟩
    · rw [z1 323 6 (by omega) (by omega), c4 323 6 (by omega) (by omega), x2]
    · rw [z1 323 3 (by omega) (by omega), c3, f45, hnn]
    · rw [f45] at hk
      rw [f46]
      by_cases hkn : k = n
      · subst hkn
        have : R 46 k = ((47 + 44 * i : Nat) : Int) := by rw [← he, hnn]; rfl
        rw [this, Int.toNat_natCast]
        refine (sp2.sg (s' := fun j => Rz 325 (464 * k + j)) (fun j hj => ?_)).out (fun q j h1 h2 => fr q j (by omega) (by omega))
        show Rz 325 (464 * k + j) = R 324 j
        rw [z1 325 _ (by omega) (by omega), c2 j hj, x4 j hj]
      · obtain ⟨o1, ik, o2, o3⟩ := old k (by omega)
        rw [o3, Int.toNat_natCast] at o1 ⊢
        refine (o1.sg (s' := fun j => Rz 325 (464 * k + j)) (fun j hj => ?_)).out (fun q j h1 h2 => fr q j (by omega) (by omega))
        show Rz 325 (464 * k + j) = R 325 (464 * k + j)
        rw [z1 325 _ (by omega) (by omega), c4 325 _ (by omega) (by omega), x5]
  · have hn5 : R 45 1 = 5 := by omega
    have h45 : Re 45 1 = 5 := by rw [f 45 1 (by omega) (by omega) (by omega) (by omega), hn5]
    have h46 : ∀ k : Nat, Re 46 k = R 46 k := fun k => f 46 k (by omega) (by omega) (by omega) (by omega)
    have hh2 : iHist Re := i2.of (f 45 1 (by omega) (by omega) (by omega) (by omega)) (fun k _ => h46 k)
    obtain ⟨R3, t1, t2, t3, t4⟩ := settle_drop (i := cnt) hr hh2 h45
    refine ⟨R3, t1, fun q j g1 g2 => t4 q j (by omega), fun Rx x1 x2 x3 x4 x5 => ?_⟩
    obtain ⟨Rb, c1, c2, c2', c3, c4⟩ := act_shift x2 (by rw [x3, i5, hn5])
    refine ⟨Rb, rec_of x2 c1, fun q j g1 g2 => c4 q j (by omega) g1, fun Rz z1 z2 z3 => ?_⟩
    have fr : ∀ q j : Nat, q < 323 → q ≠ 46 → Rz q j = Re q j := fun q j hq h => by rw [z1 q j (by omega) (by omega), c4 q j (by omega) (by omega), x1 q j hq, t4 q j (by omega)]
    have f46 : ∀ k : Nat, Rz 46 k = R3 46 k := fun k => by rw [z1 46 k (by omega) (by omega), c4 46 k (by omega) (by omega), x1 46 k (by omega)]
    have f46a : ∀ k : Nat, k < 5 → Rz 46 k = R 46 (k + 1) := fun k hk => by rw [f46, t2 k hk, h46]
    have f46b : Rz 46 5 = R 46 0 := by rw [f46, t3, h46]
    have f45 : Rz 45 1 = 5 := by rw [fr 45 1 (by omega) (by omega), h45]
    refine ⟨?_, ?_, ?_, ?_, ?_, fun k hk => ?_⟩
    · exact (sn.sg z3).out (fun q j h1 h2 => fr q j (by omega) (by omega))
    · obtain ⟨-, -, u3, u4⟩ := i2
      have turn : ∀ k : Nat, k < 6 → ∃ k2 : Nat, k2 < 6 ∧ Rz 46 k = R 46 k2 ∧ (k2 = k + 1 ∨ k2 + 5 = k) := fun k hk => by
        by_cases h5 : k < 5
        · exact ⟨k + 1, by omega, f46a k h5, Or.inl rfl⟩
        · have : k = 5 := by omega
          subst this
          exact ⟨0, by omega, f46b, Or.inr rfl⟩
      refine ⟨by omega, by omega, fun k hk => ?_, fun k k' hk hk' e => ?_⟩
      · obtain ⟨k2, hk2, e2, -⟩ := turn k hk
        rw [e2]; exact u3 k2 hk2
      · obtain ⟨k2, hk2, e2, x2'⟩ := turn k hk
        obtain ⟨k3, hk3, e3, x3'⟩ := turn k' hk'
        rw [e2, e3] at e
        have := u4 k2 k3 hk2 hk3 e
        omega
    · have h0 : Rz 0 5 = 0 := by rw [fr 0 5 (by omega) (by omega), h05]
      exact ⟨by omega, by omega, by rw [z2, h0], fun j hj => by rw [h0] at hj; omega⟩
    · rw [z1 323 6 (by omega) (by omega), c4 323 6 (by omega) (by omega), x2]
    · rw [z1 323 3 (by omega) (by omega), c3, f45]
    · rw [f45] at hk
      have hk5 : k < 5 := by omega
      rw [f46a k hk5]
      by_cases hkn : k = 4
      · subst hkn
        have : R 46 (4 + 1) = ((47 + 44 * i : Nat) : Int) := by rw [← he, hn5]; rfl
        rw [this, Int.toNat_natCast]
        refine (sp2.sg (s' := fun j => Rz 325 (464 * 4 + j)) (fun j hj => ?_)).out (fun q j h1 h2 => fr q j (by omega) (by omega))
        show Rz 325 (464 * 4 + j) = R 324 j
        rw [z1 325 _ (by omega) (by omega), show 464 * 4 + j = 1856 + j by omega, c2' j hj, x4 j hj]
      · obtain ⟨o1, ik, o2, o3⟩ := old (k + 1) (by omega)
        rw [o3, Int.toNat_natCast] at o1 ⊢
        refine (o1.sg (s' := fun j => Rz 325 (464 * k + j)) (fun j hj => ?_)).out (fun q j h1 h2 => fr q j (by omega) (by omega))
        show Rz 325 (464 * k + j) = R 325 (464 * (k + 1) + j)
        rw [z1 325 _ (by omega) (by omega), c2 _ (by omega), x5, show 464 + (464 * k + j) = 464 * (k + 1) + j by omega]
