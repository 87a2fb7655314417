/-! What a desk's action needs; numbers. -/
theorem LRg.fr {R R' : xN} {b H W fn : Nat} {g : gG} (h : LRg R b H W g fn) (e : ∀ q j : Nat, q = b ∨ q = b + 1 → R' q j = R q j) : LRg R' b H W g fn := by
  obtain ⟨a0, a1, a2, a3, a4, a5, a6⟩ := h
  exact ⟨(e b 0 (Or.inl rfl)).trans a0, (e b 1 (Or.inl rfl)).trans a1, (e b 2 (Or.inl rfl)).trans a2, (e b 3 (Or.inl rfl)).trans a3, (e b 4 (Or.inl rfl)).trans a4, (e b 5 (Or.inl rfl)).trans a5, fun i hi => (e (b + 1) i (Or.inr rfl)).trans (a6 i hi)⟩
def u1 (s : Nat → Int) (k : Nat) (v : Int) : Nat → Int := fun j => if j = k then v else s j
theorem u1_eq {s : Nat → Int} {k : Nat} {v : Int} : u1 s k v k = v := if_pos rfl
theorem u1_ne {s : Nat → Int} {k j : Nat} {v : Int} (h : j ≠ k) : u1 s k v j = s j := if_neg h
theorem xup_eq {R : xN} {a k : Nat} {v : Int} : xup R a k v a k = v := by rw [xup_get, if_pos rfl, if_pos rfl]
theorem xup_nn {R : xN} {a k q j : Nat} {v : Int} (h : ¬ (q = a ∧ j = k)) : xup R a k v q j = R q j := by
  rw [xup_get]
  by_cases hq : q = a
  · rw [if_pos hq, if_neg (fun h' => h ⟨hq, h'⟩)]
  · rw [if_neg hq]
theorem xup_row {R : xN} {a k j : Nat} {v : Int} : xup R a k v a j = u1 (R a) k v j := by rw [xup_get, if_pos rfl]; rfl
theorem SR.desk {R R' : xN} {s s' : Nat → Int} (h : SR R 1 s) (hd : SD R' 2 s') (hs : ∀ j : Nat, 154 ≤ j → s' j = s j) (hf : ∀ q j : Nat, q = 1 ∨ (16 ≤ q ∧ q < 45) → R' q j = R q j) : SR R' 1 s' := by
  obtain ⟨h1, h2, h3, h4, h5⟩ := h
  refine ⟨hd, ?_, ?_, ?_, fun k hk hs' => ?_⟩
  · rw [hs 154 (by omega)]; exact h2
  · rw [hs 155 (by omega)]; exact h3
  · rw [hs 154 (by omega), hs 155 (by omega), hf 1 2 (by omega)]; exact h4
  · rw [hs _ (by omega)] at hs'
    have h6 := (h5 k hk hs').mv (R' := R') (a := 1 + 16 + 14 * k) (fun i j hi _ => hf _ j (by omega))
    exact h6.sg (fun j hj => hs _ (by omega))
def dSpec (f : xN → Option (Int × xN)) (sp : sSp) : Prop := ∀ (R : xN) (s : Nat → Int) (H W : Nat) (g : gG), SW s H W g → DR R 2 s H W g → (∀ j : Nat, 154 ≤ j → (sp s).2 j = s j) ∧ (err (sp s).1 → (sp s).2 = s) ∧ ∃ R', f R = some ((sp s).1, R') ∧ (∀ q j : Nat, ¬ (2 ≤ q ∧ q < 16) → ¬ (311 ≤ q ∧ q < 314) → R' q j = R q j) ∧ SD R' 2 (sp s).2
theorem err1 : err (-1) := ⟨by decide, by decide⟩
theorem err2 : err (-2) := ⟨by decide, by decide⟩
theorem err3 : err (-3) := ⟨by decide, by decide⟩
theorem nerr {r : Int} (h : 0 ≤ r) : ¬ err r := fun h' => by unfold err at h'; omega
theorem nerr9 : ¬ err (-9) := fun h' => by unfold err at h'; omega
/-- a set bit -/
def hasb (v i : Int) : Prop := b4and (b4shr v i) 1 = 1
theorem inset9 {v i : Int} {R : xN} (h : hasb v i) : f_X9_isInSet i v R = some true := by unfold f_X9_isInSet; exact if_pos h
theorem inset9n {v i : Int} {R : xN} (h : ¬ hasb v i) : f_X9_isInSet i v R = some false := by unfold f_X9_isInSet; exact if_neg h
def bcO (x : Int) : Option Int := f_J6_bitCount_0f7a4 x (fun _ _ => 0)
theorem bc_def {x : Int} {R : xN} : f_J6_bitCount_0f7a4 x R = bcO x := rfl
theorem bc_num : ∀ n : Nat, n < 1024 → bcO (n : Int) = some (ones n : Int) := by decide +kernel
theorem bc_eq {v : Int} {R : xN} (h : 0 ≤ v ∧ v ≤ 1023) : f_J6_bitCount_0f7a4 v R = some (ones v.toNat : Int) := by
  obtain ⟨n, rfl⟩ := Int.eq_ofNat_of_zero_le h.1
  rw [bc_def, Int.toNat_natCast]
  exact bc_num n (by omega)
theorem low_num : ∀ n : Nat, n < 1024 → 0 < n → b4and (n : Int) (w4 ((n : Int) - 1)) = ((n &&& (n - 1) : Nat) : Int) ∧ (n &&& (n - 1)) < n ∧ ones n = ones (n &&& (n - 1)) + 1 := by decide +kernel
theorem ones_le : ∀ n : Nat, n < 1024 → ones n ≤ 10 := by decide +kernel
theorem unset_num : ∀ n : Nat, n < 1024 → ∀ p : Nat, p < 10 → 0 ≤ b4and (n : Int) (b4xor (b4shl 1 (p : Int)) (-1)) ∧ b4and (n : Int) (b4xor (b4shl 1 (p : Int)) (-1)) ≤ 1023 ∧ ones (b4and (n : Int) (b4xor (b4shl 1 (p : Int)) (-1))).toNat ≤ ones n := by decide +kernel
theorem set_num : ∀ n : Nat, n < 1024 → ∀ p : Nat, p < 10 → 0 ≤ b4or (n : Int) (b4shl 1 (p : Int)) ∧ b4or (n : Int) (b4shl 1 (p : Int)) ≤ 1023 ∧ ones (b4or (n : Int) (b4shl 1 (p : Int))).toNat ≤ ones n + 1 := by decide +kernel
theorem cut_num : ∀ n : Nat, n < 16 → ∀ p : Nat, p < 4 → 0 ≤ b4or (n : Int) (b4shl 1 (p : Int)) ∧ b4or (n : Int) (b4shl 1 (p : Int)) ≤ 15 := by decide +kernel

