/-! Pieces: the class. -/
/-- two leaves hang together along an edge that isn't cut -/
def eU (cu : Nat) (t : Nat → Nat) (i j : Nat) : Bool := decide (bitOf (eC (t i) (t j)) &&& (15 ^^^ cu) ≠ 0)
def aH (lg : Nat) (cu : Nat) (t : Nat → Nat) (i j : Nat) : Bool := (decide (i < lg) && decide (j < lg)) || eU cu t i j
theorem eC_sym (n m : Nat) : eC n m = eC m n := by
  unfold eC
  by_cases h1 : cr n = cr m ∧ m % 4 = n % 4 + 1
  · rw [if_pos h1, if_neg (by omega), if_pos (by omega)]
  · rw [if_neg h1]
    by_cases h2 : cr n = cr m ∧ n % 4 = m % 4 + 1
    · rw [if_pos h2, if_pos (by omega)]
    · rw [if_neg h2, if_neg (show ¬ (cr m = cr n ∧ n % 4 = m % 4 + 1) by omega), if_neg (show ¬ (cr m = cr n ∧ m % 4 = n % 4 + 1) by omega)]
      by_cases h3 : n % 4 = m % 4 ∧ cr m = cr n + 1
      · rw [if_pos h3, if_neg (show ¬ (m % 4 = n % 4 ∧ cr n = cr m + 1) by omega), if_pos (show m % 4 = n % 4 ∧ cr m = cr n + 1 by omega)]
      · rw [if_neg h3]
        by_cases h4 : n % 4 = m % 4 ∧ cr n = cr m + 1
        · rw [if_pos h4, if_pos (show m % 4 = n % 4 ∧ cr n = cr m + 1 by omega)]
        · rw [if_neg h4, if_neg (show ¬ (m % 4 = n % 4 ∧ cr n = cr m + 1) by omega), if_neg (show ¬ (m % 4 = n % 4 ∧ cr m = cr n + 1) by omega)]
theorem aH_sym {lg cu : Nat} {t : Nat → Nat} {i j : Nat} : aH lg cu t i j = aH lg cu t j i := by
  unfold aH eU
  rw [eC_sym, Bool.and_comm]
theorem uc_num : ∀ a : Nat, a < 16 → ∀ cu : Nat, cu < 16 → b4and (a : Int) (b4xor (cu : Int) (-1)) = ((a &&& (15 ^^^ cu) : Nat) : Int) := by decide +kernel
theorem uc_numq {a cu : Nat} (ha : a < 16) (hc : cu < 16) : Qe (b4and (a : Int) (b4xor (cu : Int) (-1))) ((a &&& (15 ^^^ cu) : Nat) : Int) := uc_num a ha cu hc
/-- what stands for staples in the class: how many leaves its legs take, one at least -/
def lgN (s : Nat → Int) : Nat := if s 9 = 0 then 0 else (s 10).toNat
theorem hw_step {R : xN} {s : Nat → Int} {D i j acc n : Nat} {t : Nat → Nat} {X : Int → Int → Option Int} (h : LC R 6 D t) (h6 : R 2 6 = s 8) (h7 : R 2 7 = s 9) (h8 : R 2 8 = s 10) (hc : 0 ≤ s 8 ∧ s 8 ≤ 15) (hl : 1 ≤ s 10 ∧ s 10 ≤ 16) (hi : i < D) (hj : j < D) (ha : acc < 65536) : lp_X0_heldWith_4 2 (i : Int) R (n + 1) (acc : Int) (j : Int) X = lp_X0_heldWith_4 2 (i : Int) R n ((if aH (lgN s) (s 8).toNat t i j = true then acc ||| 2 ^ j else acc : Nat) : Int) ((j + 1 : Nat) : Int) X := by
  obtain ⟨hD, ht, hd⟩ := id h
  obtain ⟨t1, t2⟩ := ht i hi
  obtain ⟨t3, t4⟩ := ht j hj
  have hi16 : i < 16 := by omega
  have hj16 : j < 16 := by omega
  have e5 : Qe (w4 ((j : Int) + 1)) ((j + 1 : Nat) : Int) := by unfold Qe; rw [w4_of (by omega)]; omega
  have e6 : Qe (b4or (acc : Int) (b4shl 1 (j : Int))) ((acc ||| 2 ^ j : Nat) : Int) := by
    unfold Qe
    rw [(sh_num j hj16).2.1, (bOr ha (sh_num j hj16).2.2).1]
  have hcu : (s 8).toNat < 16 := by omega
  have hcc : ((s 8).toNat : Int) = s 8 := by omega
  have e7 : Qe (b4and (eB (t i) (t j) : Int) (b4xor (s 8) (-1))) ((eB (t i) (t j) &&& (15 ^^^ (s 8).toNat) : Nat) : Int) := by
    have := uc_numq (eB_lt (t i) (t j)) hcu
    rw [hcc] at this
    exact this
  have hE : eU (s 8).toNat t i j = decide (eB (t i) (t j) &&& (15 ^^^ (s 8).toNat) ≠ 0) := rfl
  -- what an edge says
  have edge : ∀ Y : Option Int, (f_X3_edgesBetween 6 (i : Int) (j : Int) R).bind (fun v => if (b4and v (b4xor (s 8) (-1))) = 0 then xlet (w4 ((j : Int) + 1)) (fun x6 => lp_X0_heldWith_4 2 (i : Int) R n (acc : Int) x6 X) else xlet (b4or (acc : Int) (b4shl 1 (j : Int))) (fun x7 => xlet (w4 ((j : Int) + 1)) (fun x8 => lp_X0_heldWith_4 2 (i : Int) R n x7 x8 X))) = Y → lp_X0_heldWith_4 2 (i : Int) R n ((if eU (s 8).toNat t i j = true then acc ||| 2 ^ j else acc : Nat) : Int) ((j + 1 : Nat) : Int) X = Y := fun Y hY => by
    rw [← hY, eb_eq hi16 hj16 t2 t4 t1 t3, Option.bind_some, e7.eq, hE, xlet_eq, xlet_eq, xlet_eq, e5.eq, e6.eq]
    generalize eB (t i) (t j) &&& (15 ^^^ (s 8).toNat) = z
    by_cases hz : z = 0
    · rw [if_pos (show (z : Int) = 0 by omega), decide_eq_false (fun h => h hz), if_neg Bool.false_ne_true]
    · rw [if_neg (show ¬ (z : Int) = 0 by omega), decide_eq_true hz, if_pos rfl]
  rw [lp_X0_heldWith_4, show 2 + 4 = 6 from rfl, hd, Option.bind_some, if_neg (by omega), h7, h6, h8]
  unfold aH lgN
  by_cases c9 : s 9 = 0
  · rw [if_pos c9, if_pos c9, decide_eq_false (Nat.not_lt_zero i), Bool.false_and, Bool.false_or]
    exact (edge _ rfl).symm
  · rw [if_neg c9, if_neg c9]
    by_cases d1 : s 10 ≤ (i : Int)
    · rw [if_pos d1, decide_eq_false (show ¬ i < (s 10).toNat by omega), Bool.false_and, Bool.false_or]
      exact (edge _ rfl).symm
    · rw [if_neg d1, decide_eq_true (show i < (s 10).toNat by omega), Bool.true_and]
      by_cases d2 : s 10 ≤ (j : Int)
      · rw [if_pos d2, decide_eq_false (show ¬ j < (s 10).toNat by omega), Bool.false_or]
        exact (edge _ rfl).symm
      · rw [if_neg d2, decide_eq_true (show j < (s 10).toNat by omega), Bool.true_or, if_pos rfl, xlet_eq, xlet_eq, e5.eq, e6.eq]
theorem hw_lp {R : xN} {s : Nat → Int} {D i : Nat} {t : Nat → Nat} (h : LC R 6 D t) (h6 : R 2 6 = s 8) (h7 : R 2 7 = s 9) (h8 : R 2 8 = s 10) (hc : 0 ≤ s 8 ∧ s 8 ≤ 15) (hl : 1 ≤ s 10 ∧ s 10 ≤ 16) (hi : i < D) : ∀ (n c j acc : Nat), c < n → j + c = D → acc < 65536 → ∃ z : Nat, z < 65536 ∧ (∀ X : Int → Int → Option Int, lp_X0_heldWith_4 2 (i : Int) R n (acc : Int) (j : Int) X = X (z : Int) (D : Int)) ∧ ∀ b, z.testBit b = (acc.testBit b || (decide (j ≤ b) && (decide (b < D) && aH (lgN s) (s 8).toNat t i b))) := by
  intro n
  induction n with
  | zero => intro c j acc h; omega
  | succ n ih =>
    intro c j acc h1 h2 h3
    have hD := h.1
    cases c with
    | zero =>
      refine ⟨acc, h3, fun X => ?_, fun b => ?_⟩
      · rw [lp_X0_heldWith_4, show 2 + 4 = 6 from rfl, h.2.2, Option.bind_some, if_pos (by omega), show j = D by omega]
      · by_cases hb : j ≤ b
        · rw [decide_eq_false (show ¬ b < D by omega), Bool.false_and, Bool.and_false, Bool.or_false]
        · rw [decide_eq_false hb, Bool.false_and, Bool.or_false]
    | succ c =>
      have hz : (if aH (lgN s) (s 8).toNat t i j = true then acc ||| 2 ^ j else acc) < 65536 := by
        split
        · exact (bOr h3 (sh_num j (by omega)).2.2).2
        · exact h3
      obtain ⟨z, z1, z2, z3⟩ := ih c (j + 1) _ (by omega) (by omega) hz
      refine ⟨z, z1, fun X => (hw_step h h6 h7 h8 hc hl hi (by omega) h3).trans (z2 X), fun b => ?_⟩
      rw [z3 b]
      by_cases hb : b = j
      · subst hb
        rw [decide_eq_false (show ¬ b + 1 ≤ b by omega), Bool.false_and, Bool.or_false, decide_eq_true (Nat.le_refl b), Bool.true_and, decide_eq_true (show b < D by omega), Bool.true_and]
        by_cases ha : aH (lgN s) (s 8).toNat t i b = true
        · rw [if_pos ha, ha, Nat.testBit_or, Nat.testBit_two_pow_self]
        · rw [if_neg ha, Bool.eq_false_iff.mpr ha, Bool.or_false]
      · have hd : decide (j + 1 ≤ b) = decide (j ≤ b) := by
          by_cases q : j ≤ b
          · rw [decide_eq_true q, decide_eq_true (show j + 1 ≤ b by omega)]
          · rw [decide_eq_false q, decide_eq_false (show ¬ j + 1 ≤ b by omega)]
        rw [hd]
        congr 1
        split
        · rw [Nat.testBit_or, Nat.testBit_two_pow, decide_eq_false (fun h => hb h.symm), Bool.or_false]
        · rfl
/-- what is needed of class and row for pieces -/
def PC (R : xN) (s : Nat → Int) (D : Nat) (t : Nat → Nat) : Prop := LC R 6 D t ∧ R 2 6 = s 8 ∧ R 2 7 = s 9 ∧ R 2 8 = s 10 ∧ (0 ≤ s 8 ∧ s 8 ≤ 15) ∧ (1 ≤ s 10 ∧ s 10 ≤ 16)
theorem held9 {R : xN} {s : Nat → Int} {D i : Nat} {t : Nat → Nat} (h : PC R s D t) (hi : i < D) : ∃ z : Nat, z < 65536 ∧ f_X0_heldWith 2 (i : Int) R = some (z : Int) ∧ ∀ b, z.testBit b = (decide (b < D) && aH (lgN s) (s 8).toNat t i b) := by
  obtain ⟨h1, h6, h7, h8, hc, hl⟩ := h
  have hD := h1.1
  obtain ⟨z, z1, z2, z3⟩ := hw_lp h1 h6 h7 h8 hc hl hi 6000 D 0 0 (by omega) (by omega) (by omega)
  refine ⟨z, z1, z2 (fun z23 z24 => some z23), fun b => ?_⟩
  rw [z3 b, Nat.zero_testBit, Bool.false_or, decide_eq_true (Nat.zero_le b), Bool.true_and]
def clsd (D : Nat) (A : Nat → Nat → Bool) (Q : Nat → Prop) : Prop := ∀ i j, i < D → j < D → A i j = true → Q i → Q j
theorem swp_lp {R : xN} {s : Nat → Int} {D : Nat} {t : Nat → Nat} {p3 p4 : Int} (h : PC R s D t) : ∀ (n c i acc : Nat), c < n → i + c = D → acc < 65536 → (∀ b, acc.testBit b = true → b < D) → ∃ z : Nat, z < 65536 ∧ (∀ X : Int → Int → Option Int, lp_X0_pieceWith_26 2 p3 p4 R n (acc : Int) (i : Int) X = X (z : Int) (D : Int)) ∧ (∀ b, z.testBit b = true → b < D) ∧ (∀ b, acc.testBit b = true → z.testBit b = true) ∧ (∀ k, i ≤ k → k < D → acc.testBit k = true → ∀ b, b < D → aH (lgN s) (s 8).toNat t k b = true → z.testBit b = true) ∧ ∀ Q : Nat → Prop, clsd D (aH (lgN s) (s 8).toNat t) Q → (∀ b, acc.testBit b = true → Q b) → ∀ b, z.testBit b = true → Q b := by
  intro n
  induction n with
  | zero => intro c i acc h; omega
  | succ n ih =>
    intro c i acc h1 h2 h3 h4
    have hL := h.1
    have hD := hL.1
    cases c with
    | zero =>
      refine ⟨acc, h3, fun X => ?_, h4, fun b hb => hb, fun k hk1 hk2 => by omega, fun Q _ hq => hq⟩
      rw [lp_X0_pieceWith_26, show 2 + 4 = 6 from rfl, hL.2.2, Option.bind_some, if_pos (by omega), show i = D by omega]
    | succ c =>
      have e5 : Qe (w4 ((i : Int) + 1)) ((i + 1 : Nat) : Int) := by unfold Qe; rw [w4_of (by omega)]; omega
      by_cases hb : acc.testBit i = true
      · obtain ⟨m, m1, m2, m3⟩ := held9 h (show i < D by omega)
        obtain ⟨o1, o2⟩ := bOr h3 m1
        have o1' : Qe _ _ := o1
        obtain ⟨z, z1, z2, z3, z4, z5, z6⟩ := ih c (i + 1) (acc ||| m) (by omega) (by omega) o2 (fun b hb => by
          rw [Nat.testBit_or, m3] at hb
          by_cases q : acc.testBit b = true
          · exact h4 b q
          · rw [Bool.eq_false_iff.mpr q, Bool.false_or] at hb
            exact of_decide_eq_true (Bool.and_eq_true_iff.mp hb).1)
        refine ⟨z, z1, fun X => ?_, z3, fun b hb' => z4 b (by rw [Nat.testBit_or, hb', Bool.true_or]), fun k hk1 hk2 hk3 b hbD hA => ?_, fun Q hQ hq b hb' => z6 Q hQ (fun b' hb2 => ?_) b hb'⟩
        · rw [lp_X0_pieceWith_26, show 2 + 4 = 6 from rfl, hL.2.2, Option.bind_some, if_neg (by omega), in9s h3 (by omega), Option.bind_some, if_pos hb, m2, Option.bind_some, xlet_eq, xlet_eq, o1'.eq, e5.eq]
          exact z2 X
        · by_cases hki : k = i
          · subst hki
            refine z4 b ?_
            rw [Nat.testBit_or, m3, decide_eq_true hbD, Bool.true_and, hA, Bool.or_true]
          · exact z5 k (by omega) hk2 (by rw [Nat.testBit_or, hk3, Bool.true_or]) b hbD hA
        · rw [Nat.testBit_or, m3] at hb2
          by_cases q : acc.testBit b' = true
          · exact hq b' q
          · rw [Bool.eq_false_iff.mpr q, Bool.false_or, Bool.and_eq_true_iff] at hb2
            exact hQ i b' (by omega) (of_decide_eq_true hb2.1) hb2.2 (hq i hb)
      · have o1 : Qe (b4or (acc : Int) 0) (acc : Int) := by
          have := (bOr h3 (show 0 < 65536 by omega)).1
          rw [Nat.or_zero] at this
          exact this
        obtain ⟨z, z1, z2, z3, z4, z5, z6⟩ := ih c (i + 1) acc (by omega) (by omega) h3 h4
        refine ⟨z, z1, fun X => ?_, z3, z4, fun k hk1 hk2 hk3 b hbD hA => ?_, z6⟩
        · rw [lp_X0_pieceWith_26, show 2 + 4 = 6 from rfl, hL.2.2, Option.bind_some, if_neg (by omega), in9s h3 (by omega), Option.bind_some, if_neg hb, xlet_eq, xlet_eq, o1.eq, e5.eq]
          exact z2 X
        · by_cases hki : k = i
          · subst hki; exact absurd hk3 hb
          · exact z5 k (by omega) hk2 hk3 b hbD hA
theorem rnd_lp {R : xN} {s : Nat → Int} {D : Nat} {t : Nat → Nat} (h : PC R s D t) : ∀ (n r p : Nat) (q : Int), 17 < n + r → r ≤ 17 → p < 65536 → (∀ b, p.testBit b = true → b < D) → (((p : Int) = q ∧ clsd D (aH (lgN s) (s 8).toNat t) (fun b => p.testBit b = true)) ∨ (¬ (p : Int) = q ∧ r + 1 ≤ cK 16 p)) → ∃ z : Nat, z < 65536 ∧ (∀ X : Int → Option Int, lp_X0_pieceWith_9 2 R n (p : Int) q (r : Int) (fun z16 z17 z18 => X z16) = X (z : Int)) ∧ (∀ b, z.testBit b = true → b < D) ∧ (∀ b, p.testBit b = true → z.testBit b = true) ∧ clsd D (aH (lgN s) (s 8).toNat t) (fun b => z.testBit b = true) ∧ ∀ Q : Nat → Prop, clsd D (aH (lgN s) (s 8).toNat t) Q → (∀ b, p.testBit b = true → Q b) → ∀ b, z.testBit b = true → Q b := by
  intro n
  induction n with
  | zero => intro r p q h1 h2; omega
  | succ n ih =>
    intro r p q h1 h2 h3 h4 h5
    rcases h5 with ⟨h5, h6⟩ | ⟨h5, h6⟩
    · refine ⟨p, h3, fun X => ?_, h4, fun b hb => hb, h6, fun Q _ hq => hq⟩
      rw [lp_X0_pieceWith_9]
      by_cases hr : (16 : Int) < (r : Int)
      · rw [if_pos hr]
      · rw [if_neg hr, if_pos h5]
    · have hle := cK_le (k := 16) (v := p)
      have e5 : Qe (w4 ((r : Int) + 1)) ((r + 1 : Nat) : Int) := by unfold Qe; rw [w4_of (by omega)]; omega
      have hD := h.1.1
      obtain ⟨z, z1, z2, z3, z4, z5, z6⟩ := swp_lp (p3 := (p : Int)) (p4 := (r : Int)) h 6000 D 0 p (by omega) (by omega) h3 h4
      have z5' : ∀ k, k < D → p.testBit k = true → ∀ b, b < D → aH (lgN s) (s 8).toNat t k b = true → z.testBit b = true := fun k hk => z5 k (Nat.zero_le k) hk
      obtain ⟨y, y1, y2, y3, y4, y5, y6⟩ := ih (r + 1) z (p : Int) (by omega) (by omega) z1 z3 (by
        by_cases hz : (z : Int) = (p : Int)
        · refine Or.inl ⟨hz, fun i j hi hj hA hq => ?_⟩
          have hzp : z = p := by omega
          rw [hzp] at hq
          exact z5' i hi hq j hj hA
        · refine Or.inr ⟨hz, ?_⟩
          have hne : ∃ b, b < 16 ∧ z.testBit b = true ∧ ¬ p.testBit b = true := by
            apply Classical.byContradiction
            intro hno
            apply hz
            have : z = p := Nat.eq_of_testBit_eq (fun b => by
              by_cases hb : p.testBit b = true
              · rw [hb, z4 b hb]
              · by_cases hzb : z.testBit b = true
                · exact absurd ⟨b, by have := z3 b hzb; omega, hzb, hb⟩ hno
                · rw [Bool.eq_false_iff.mpr hb, Bool.eq_false_iff.mpr hzb])
            rw [this]
          obtain ⟨b, hb1, hb2, hb3⟩ := hne
          have := (cK_mono z4 16).2 b hb1 hb2 hb3
          omega)
      refine ⟨y, y1, fun X => ?_, y3, fun b hb => y4 b (z4 b hb), y5, fun Q hQ hq => y6 Q hQ (z6 Q hQ hq)⟩
      rw [z0] at z2
      rw [lp_X0_pieceWith_9, if_neg (by omega), if_neg h5, z2, xlet_eq, e5.eq]
      exact y2 X
theorem piece9 {R : xN} {s : Nat → Int} {D i : Nat} {t : Nat → Nat} (h : PC R s D t) (hi : i < D) : ∃ z : Nat, z < 65536 ∧ f_X0_pieceWith 2 (i : Int) R = some (z : Int) ∧ (∀ b, z.testBit b = true → b < D) ∧ z.testBit i = true ∧ clsd D (aH (lgN s) (s 8).toNat t) (fun b => z.testBit b = true) ∧ ∀ Q : Nat → Prop, clsd D (aH (lgN s) (s 8).toNat t) Q → Q i → ∀ b, z.testBit b = true → Q b := by
  have hD := h.1.1
  obtain ⟨-, s2, s3⟩ := sh_num i (by omega)
  have s2' : Qe _ _ := s2
  clear s2
  have hp : 0 < 2 ^ i := Nat.pow_pos (by decide)
  have hk : ∀ b, (2 ^ i).testBit b = true → b = i := fun b hb => by
    rw [Nat.testBit_two_pow] at hb
    exact (of_decide_eq_true hb).symm
  have hc1 : 1 ≤ cK 16 (2 ^ i) := by
    have := cK_or (v := 0) (l := i) 16
    rw [Nat.zero_or, cK_0, if_pos ⟨by omega, by rw [Nat.zero_testBit]; decide⟩] at this
    omega
  obtain ⟨z, z1, z2, z3, z4, z5, z6⟩ := rnd_lp h 6000 0 (2 ^ i) 0 (by omega) (by omega) s3 (fun b hb => by rw [hk b hb]; exact hi) (Or.inr ⟨by omega, by omega⟩)
  refine ⟨z, z1, ?_, z3, z4 i Nat.testBit_two_pow_self, z5, fun Q hQ hq => z6 Q hQ (fun b hb => by rw [hk b hb]; exact hq)⟩
  unfold f_X0_pieceWith
  rw [xlet_eq, s2'.eq]
  exact z2 (fun z16 => some z16)

