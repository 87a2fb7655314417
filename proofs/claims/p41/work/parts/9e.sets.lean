/-! Sets of sixteen: rows. -/
theorem bOr {a b : Nat} (ha : a < 65536) (hb : b < 65536) : b4or (a : Int) (b : Int) = ((a ||| b : Nat) : Int) ∧ a ||| b < 65536 := by
  have hlt : a ||| b < 65536 := Nat.or_lt_two_pow (n := 16) ha hb
  refine ⟨?_, hlt⟩
  have h1 : (Int32.ofInt (a : Int) ||| Int32.ofInt (b : Int)).toBitVec.toNat = a ||| b := by
    rw [Int32.toBitVec_or, Int32.toBitVec_ofInt, Int32.toBitVec_ofInt, BitVec.ofInt_natCast, BitVec.ofInt_natCast, BitVec.toNat_or, BitVec.toNat_ofNat, BitVec.toNat_ofNat, Nat.mod_eq_of_lt (by omega), Nat.mod_eq_of_lt (by omega)]
  show (Int32.ofInt (a : Int) ||| Int32.ofInt (b : Int)).toBitVec.toInt = _
  rw [BitVec.toInt_eq_toNat_of_lt (by rw [h1]; omega), h1]
theorem bAnd {a b : Nat} (ha : a < 65536) (hb : b < 65536) : b4and (a : Int) (b : Int) = ((a &&& b : Nat) : Int) := by
  have hlt : a &&& b < 65536 := Nat.lt_of_le_of_lt Nat.and_le_left ha
  have h1 : (Int32.ofInt (a : Int) &&& Int32.ofInt (b : Int)).toBitVec.toNat = a &&& b := by
    rw [Int32.toBitVec_and, Int32.toBitVec_ofInt, Int32.toBitVec_ofInt, BitVec.ofInt_natCast, BitVec.ofInt_natCast, BitVec.toNat_and, BitVec.toNat_ofNat, BitVec.toNat_ofNat, Nat.mod_eq_of_lt (by omega), Nat.mod_eq_of_lt (by omega)]
  show (Int32.ofInt (a : Int) &&& Int32.ofInt (b : Int)).toBitVec.toInt = _
  rw [BitVec.toInt_eq_toNat_of_lt (by rw [h1]; omega), h1]
theorem sh_num : ∀ i : Nat, i < 16 → ((Int32.ofInt (i : Int) &&& 31).toBitVec.smod 32).toNat = i ∧ b4shl 1 (i : Int) = ((2 ^ i : Nat) : Int) ∧ 2 ^ i < 65536 := by decide +kernel
theorem bShr {v i : Nat} (hv : v < 65536) (hi : i < 16) : b4shr (v : Int) (i : Int) = ((v >>> i : Nat) : Int) := by
  have h1 : (Int32.ofInt (v : Int)).toBitVec.toInt = (v : Int) := by
    rw [Int32.toBitVec_ofInt, BitVec.ofInt_natCast, BitVec.toInt_eq_toNat_of_lt (by rw [BitVec.toNat_ofNat, Nat.mod_eq_of_lt (by omega)]; omega), BitVec.toNat_ofNat, Nat.mod_eq_of_lt (by omega)]
  show (Int32.ofInt (v : Int) >>> (Int32.ofInt (i : Int) &&& 31)).toBitVec.toInt = _
  rw [Int32.toBitVec_shiftRight, BitVec.sshiftRight_eq', BitVec.toInt_sshiftRight, (sh_num i hi).1, h1]
  rfl
theorem bHas {v i : Nat} (hv : v < 65536) (hi : i < 16) : b4and (b4shr (v : Int) (i : Int)) 1 = 1 ↔ v.testBit i = true := by
  have hle : v >>> i < 65536 := by
    rw [Nat.shiftRight_eq_div_pow]
    exact Nat.lt_of_le_of_lt (Nat.div_le_self _ _) hv
  have h2 : b4and ((v >>> i : Nat) : Int) ((1 : Nat) : Int) = _ := bAnd hle (by omega)
  rw [bShr hv hi]
  have h3 : b4and ((v >>> i : Nat) : Int) 1 = (((v >>> i) &&& 1 : Nat) : Int) := h2
  rw [h3, Nat.and_one_is_mod, Nat.shiftRight_eq_div_pow, Nat.testBit_eq_decide_div_mod_eq, decide_eq_true_iff]
  omega
theorem in9s {v i : Nat} {R : xN} (hv : v < 65536) (hi : i < 16) : f_X9_isInSet (i : Int) (v : Int) R = some (v.testBit i) := by
  by_cases h : v.testBit i = true
  · rw [inset9 ((bHas hv hi).mpr h), h]
  · rw [inset9n (fun h' => h ((bHas hv hi).mp h')), Bool.eq_false_iff.mpr h]
theorem tb_div {v k : Nat} : v / 2 ^ k % 2 = if v.testBit k = true then 1 else 0 := by
  rw [Nat.testBit_eq_decide_div_mod_eq]
  by_cases h : v / 2 ^ k % 2 = 1
  · rw [decide_eq_true h, if_pos rfl, h]
  · rw [decide_eq_false h, if_neg Bool.false_ne_true]; omega
theorem cK_succ {k v : Nat} : cK (k + 1) v = cK k v + if v.testBit k = true then 1 else 0 := by rw [← tb_div]; rfl
theorem cK_le : ∀ {k v : Nat}, cK k v ≤ k := by
  intro k
  induction k with
  | zero => intro v; exact Nat.le_refl _
  | succ k ih => intro v; rw [cK_succ]; have := ih (v := v); split <;> omega
theorem cK_mono {v z : Nat} (h : ∀ b, v.testBit b = true → z.testBit b = true) : ∀ (k : Nat), cK k v ≤ cK k z ∧ ∀ b, b < k → z.testBit b = true → ¬ v.testBit b = true → cK k v < cK k z := by
  intro k
  induction k with
  | zero => exact ⟨Nat.le_refl _, fun b hb => by omega⟩
  | succ k ih =>
    rw [cK_succ, cK_succ]
    refine ⟨?_, fun b hb h1 h2 => ?_⟩
    · by_cases hv : v.testBit k = true
      · rw [if_pos hv, if_pos (h k hv)]; have := ih.1; omega
      · rw [if_neg hv]; have := ih.1; split <;> omega
    · by_cases hbk : b = k
      · subst hbk
        rw [if_neg h2, if_pos h1]; have := ih.1; omega
      · have := ih.2 b (by omega) h1 h2
        by_cases hv : v.testBit k = true
        · rw [if_pos hv, if_pos (h k hv)]; omega
        · rw [if_neg hv]; split <;> omega
theorem cK_or {v l : Nat} : ∀ (k : Nat), cK k (v ||| 2 ^ l) = cK k v + if l < k ∧ ¬ v.testBit l = true then 1 else 0 := by
  intro k
  induction k with
  | zero => rw [if_neg (by omega)]; rfl
  | succ k ih =>
    rw [cK_succ, cK_succ, ih, Nat.testBit_or, Nat.testBit_two_pow]
    by_cases hv : v.testBit k = true
    · rw [hv, Bool.true_or, if_pos rfl]
      by_cases h : l < k ∧ ¬ v.testBit l = true
      · rw [if_pos h, if_pos ⟨by omega, h.2⟩]
      · rw [if_neg h, if_neg (fun h' => h ⟨by have : l ≠ k := fun e => h'.2 (by rw [e]; exact hv)
                                              omega, h'.2⟩)]
    · rw [Bool.eq_false_iff.mpr hv, Bool.false_or]
      by_cases hl : l = k
      · subst hl
        rw [decide_eq_true rfl, if_pos rfl, if_neg (by omega), if_neg Bool.false_ne_true, if_pos ⟨by omega, hv⟩]
      · rw [decide_eq_false hl, if_neg Bool.false_ne_true]
        by_cases h : l < k ∧ ¬ v.testBit l = true
        · rw [if_pos h, if_pos ⟨by omega, h.2⟩]
        · rw [if_neg h, if_neg (fun h' => h ⟨by omega, h'.2⟩)]
theorem cK_0 : ∀ k : Nat, cK k 0 = 0 := by
  intro k
  induction k with
  | zero => rfl
  | succ k ih =>
    rw [cK_succ, ih, Nat.zero_testBit, if_neg Bool.false_ne_true]
