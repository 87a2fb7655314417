/-! Pieces: the model; both. -/
def k337 (R R' : xN) : Prop := ∀ q j : Nat, q ≠ 337 → R' q j = R q j
theorem k337.trans {R R1 R2 : xN} (h : k337 R R1) (g : k337 R1 R2) : k337 R R2 := fun q j h1 => by rw [g q j h1, h q j h1]
/-- what the labels keep -/
def good (D : Nat) (A : Nat → Nat → Bool) (L : Nat → Nat) : Prop := ∀ Q : Nat → Prop, (∀ i j, i < D → j < D → A i j = true → (Q i ↔ Q j)) → ∀ i j, i < D → j < D → L i = L j → (Q i ↔ Q j)
/-- the set of the labels -/
def lbS (L : Nat → Nat) : Nat → Nat
  | 0 => 0
  | m + 1 => lbS L m ||| 2 ^ L m
theorem lbS_lt {L : Nat → Nat} {D : Nat} (h : ∀ i, i < D → L i < 16) : ∀ m, m ≤ D → lbS L m < 65536 := by
  intro m
  induction m with
  | zero => intro _; show 0 < 65536; omega
  | succ m ih => intro hm; exact (bOr (ih (by omega)) (sh_num (L m) (h m (by omega))).2.2).2
theorem lbS_bit {L : Nat → Nat} : ∀ m b, (lbS L m).testBit b = true ↔ ∃ i, i < m ∧ L i = b := by
  intro m
  induction m with
  | zero =>
    intro b
    show (0 : Nat).testBit b = true ↔ _
    rw [Nat.zero_testBit]
    exact ⟨fun h => absurd h (by decide), fun ⟨i, h, _⟩ => by omega⟩
  | succ m ih =>
    intro b
    show (lbS L m ||| 2 ^ L m).testBit b = true ↔ _
    rw [Nat.testBit_or, Nat.testBit_two_pow, Bool.or_eq_true_iff, ih b, decide_eq_true_iff]
    constructor
    · rintro (⟨i, h1, h2⟩ | h)
      · exact ⟨i, by omega, h2⟩
      · exact ⟨m, by omega, h⟩
    · rintro ⟨i, h1, h2⟩
      by_cases hi : i = m
      · subst hi; exact Or.inr h2
      · exact Or.inl ⟨i, by omega, h2⟩
/-- the class counts as many pieces as there are labels -/
theorem cnt_lp {R : xN} {s : Nat → Int} {D : Nat} {t : Nat → Nat} {L : Nat → Nat} (h : PC R s D t) (hl16 : ∀ i, i < D → L i < 16) (hg : good D (aH (lgN s) (s 8).toNat t) L) (hA : ∀ i j, i < D → j < D → aH (lgN s) (s 8).toNat t i j = true → L i = L j) : ∀ (n c i C : Nat), c < n → i + c = D → C < 65536 → (∀ b, b < D → (C.testBit b = true ↔ ∃ k, k < i ∧ L k = L b)) → ∀ X : Int → Option Int, lp_X0_countPieces_6 2 R n (cK 16 (lbS L i) : Int) (C : Int) (i : Int) (fun z10 z11 z12 => X z10) = X (cK 16 (lbS L D) : Int) := by
  intro n
  induction n with
  | zero => intro c i C h; omega
  | succ n ih =>
    intro c i C h1 h2 h3 h4 X
    have hL := h.1
    have hD := hL.1
    rw [lp_X0_countPieces_6, show 2 + 4 = 6 from rfl, hL.2.2, Option.bind_some]
    cases c with
    | zero => rw [if_pos (by omega), show i = D by omega]
    | succ c =>
      have hi : i < D := by omega
      have e5 : Qe (w4 ((i : Int) + 1)) ((i + 1 : Nat) : Int) := by unfold Qe; rw [w4_of (by omega)]; omega
      have hck := cK_le (k := 16) (v := lbS L i)
      have hor : cK 16 (lbS L (i + 1)) = cK 16 (lbS L i) + if L i < 16 ∧ ¬ (lbS L i).testBit (L i) = true then 1 else 0 := cK_or 16
      have hbit := lbS_bit (L := L) i (L i)
      rw [if_neg (by omega), in9s h3 (by omega), Option.bind_some]
      by_cases hc : C.testBit i = true
      · have := (h4 i hi).mp hc
        rw [if_pos hc, xlet_eq, e5.eq]
        rw [if_neg (fun h => h.2 (hbit.mpr this)), Nat.add_zero (cK 16 (lbS L i))] at hor
        rw [← hor]
        refine ih c (i + 1) C (by omega) (by omega) h3 (fun b hb => ?_) X
        rw [h4 b hb]
        constructor
        · rintro ⟨k, k1, k2⟩; exact ⟨k, by omega, k2⟩
        · rintro ⟨k, k1, k2⟩
          by_cases hk : k = i
          · subst hk
            obtain ⟨k', k3, k4⟩ := this
            exact ⟨k', k3, k4.trans k2⟩
          · exact ⟨k, by omega, k2⟩
      · have hno : ¬ ∃ k, k < i ∧ L k = L i := fun h => hc ((h4 i hi).mpr h)
        obtain ⟨z, z1, z2, z3, z4, z5, z6⟩ := piece9 h hi
        -- the piece is what has the label
        have hz : ∀ b, b < D → (z.testBit b = true ↔ L i = L b) := fun b hb => by
          constructor
          · intro hzb
            exact z6 (fun b => L i = L b) (fun a b ha hb' hab hq => by rw [hq]; exact hA a b ha hb' hab) rfl b hzb
          · intro hq
            have := hg (fun b => z.testBit b = true) (fun a b ha hb' hab => ⟨z5 a b ha hb' hab, z5 b a hb' ha (by rw [aH_sym]; exact hab)⟩) i b hi hb hq
            exact this.mp z4
        obtain ⟨o1, o2⟩ := bOr h3 z1
        have o1' : Qe _ _ := o1
        have e6 : Qe (w4 ((cK 16 (lbS L i) : Int) + 1)) (cK 16 (lbS L (i + 1)) : Int) := by
          rw [if_pos ⟨hl16 i hi, fun h => hno (hbit.mp h)⟩] at hor
          unfold Qe
          rw [w4_of (by omega)]
          omega
        rw [if_neg hc, z2, Option.bind_some, xlet_eq, xlet_eq, xlet_eq, o1'.eq, e5.eq, e6.eq]
        refine ih c (i + 1) _ (by omega) (by omega) o2 (fun b hb => ?_) X
        rw [Nat.testBit_or, Bool.or_eq_true_iff, h4 b hb, hz b hb]
        constructor
        · rintro (⟨k, k1, k2⟩ | hq)
          · exact ⟨k, by omega, k2⟩
          · exact ⟨i, by omega, hq⟩
        · rintro ⟨k, k1, k2⟩
          by_cases hk : k = i
          · subst hk; exact Or.inr k2
          · exact Or.inl ⟨k, by omega, k2⟩

