/-! Notes asked about: a note, the index. -/
theorem pgl9 {R1 R2 : xN} {s : Nat → Int} {L N K y : Nat} (h : Lay R1 R2 s L N K) (hL : 1 ≤ L ∧ L ≤ 9) (hy : y < L * K) : f_X2_pageOfLine 314 (y : Int) R1 = some (R2 338 (y / L)) ∧ y / L < K ∧ y < 1000 := by
  obtain ⟨h1, h2, h3, h4, h5, h6⟩ := h
  have hq : y / L < K := Nat.div_lt_of_lt_mul hy
  have hb : L * K ≤ 9 * 32 := Nat.mul_le_mul hL.2 h4
  have e1 := dvq (y := y) (L := L) (by omega)
  have g1 : (0 : Int) ≤ ((y / L : Nat) : Int) ∧ ((y / L : Nat) : Int) < 32 := by
    generalize y / L = q at hq ⊢
    omega
  have g2 : ((y / L : Nat) : Int) < (K : Int) := by
    generalize y / L = q at hq ⊢
    omega
  refine ⟨?_, hq, by omega⟩
  unfold f_X2_pageOfLine
  rw [h1, h2, if_neg (show ¬ (L : Int) < 1 by omega), if_neg (show ¬ (y : Int) < 0 by omega), if_pos (show (L : Int) ≠ 0 by omega), e1.eq, if_pos g2, if_pos (show (L : Int) ≠ 0 by omega), if_pos g1, tnc, show 314 + 3 = 317 from rfl, (h5 _ hq).1]
theorem o_nq {a b : Int} : opM Inv (f_X9_note 0 a b) (f_X10_note 323 a b) := by
  intro R hI
  obtain ⟨H, W, g, w, r⟩ := hI.1.1
  obtain ⟨hB, hs⟩ := nb_of w r
  have h11 := w.2.2.2.2.2.2.2.2.2.2.2.1
  have hL : 1 ≤ (R 324 11).toNat ∧ (R 324 11).toNat ≤ 9 := by omega
  have hLL : R 324 11 = (((R 324 11).toNat : Nat) : Int) := by omega
  generalize hNN : (R 324 37).toNat = N at *
  generalize hLe : (R 324 11).toNat = L at *
  have hN := hB.2.1
  have e1 : Qe (w4 ((N : Int) - 1)) ((N : Int) - 1) := by unfold Qe; rw [w4_of (by omega)]
  have q9 : f_X3_isBooklet 6 R = some (decide (g.1 = 1 ∧ g.2.1 = 1)) := isb9 r.2.2.2.1
  unfold f_X9_note f_X4_has
  rw [show 0 + 13 = 13 from rfl, hB.2.2.1, e1.eq, in9, Option.bind_some, Option.bind_some]
  by_cases ha : 0 ≤ a ∧ a ≤ (N : Int) - 1
  · obtain ⟨i, rfl⟩ := Int.eq_ofNat_of_zero_le ha.1
    have hi : i < N := by omega
    have gi : (0 : Int) ≤ (i : Int) ∧ (i : Int) < 12 := by omega
    rw [if_pos (decide_eq_true ha), in9, Option.bind_some]
    by_cases hb : 0 ≤ b ∧ b ≤ 6
    · rw [if_pos (decide_eq_true hb)]
      by_cases h4 : 4 ≤ b
      · rw [if_pos h4, show 0 + 6 = 6 from rfl, q9, Option.bind_some]
        by_cases hbk : g.1 = 1 ∧ g.2.1 = 1
        · obtain ⟨R1, a1, a2, a3, a4, v, Ra, R2, K, b1, b2, b3, b4, b5, b6, b7, b8, b9⟩ := lay_all w r hbk
          rw [hNN, hLe] at b9
          obtain ⟨l1, l2⟩ := b9.2.2.2.2.2.2.1 i hi
          have hi2 : f_X2_firstLineOf 314 (i : Int) R1 = some (nine (R2 339 i)) := by
            unfold f_X2_firstLineOf
            rw [in9, Option.bind_some, if_pos (decide_eq_true (by omega)), if_pos gi, tnc, show 314 + 2 = 316 from rfl, l1]
          have hlen := (hs i hi).1
          have hln : R 324 (40 + 4 * i) = (lnN (R 324) i : Int) := by unfold lnN; omega
          have r37 : R1 324 37 = (N : Int) := by rw [a3]; exact hB.1
          have r11 : R2 324 11 = (L : Int) := by rw [b7]; exact hLL
          have e40 : Qe (w4 (((38 + 4 * i : Nat) : Int) + 2)) ((40 + 4 * i : Nat) : Int) := by unfold Qe; rw [w4_of (by omega)]; omega
          have g40 : (0 : Int) ≤ ((40 + 4 * i : Nat) : Int) ∧ ((40 + 4 * i : Nat) : Int) < 464 := by omega
          have hL0 : (L : Int) ≠ 0 := by omega
          have hI2 : Inv R2 := hI.sc (a2.trans b8)
          have hB1 : NB R1 (R 324) N := hB.k a4
          unfold f_X10_note
          rw [if_pos (decide_eq_true hbk), show 0 + 314 = 314 from rfl, show 0 + 2 = 2 from rfl, a1, Option.bind_some, hi2, Option.bind_some]
          -- the model up to the first line
          have M : ∀ (X : Option (Int × xN)), (if 0 ≤ R2 339 i then (if b = 4 then (if (L : Int) ≠ 0 then (if 0 ≤ w4 (Int.tdiv (R2 339 i) (L : Int)) ∧ w4 (Int.tdiv (R2 339 i) (L : Int)) < 32 then some (R2 338 (w4 (Int.tdiv (R2 339 i) (L : Int))).toNat, R2) else none) else none) else if b = 5 then (if (L : Int) ≠ 0 then some (Int.tmod (R2 339 i) (L : Int), R2) else none) else (if (L : Int) ≠ 0 then (if 0 ≤ w4 (Int.tdiv (w4 (w4 (R2 339 i + (lnN (R 324) i : Int)) - 1)) (L : Int)) ∧ w4 (Int.tdiv (w4 (w4 (R2 339 i + (lnN (R 324) i : Int)) - 1)) (L : Int)) < 32 then some (R2 338 (w4 (Int.tdiv (w4 (w4 (R2 339 i + (lnN (R 324) i : Int)) - 1)) (L : Int))).toNat, R2) else none) else none)) else some ((-9), R2)) = X → ((f_X10_in (i : Int) 0 (w4 (R1 (323 + 1) 37 - 1)) R1).bind fun v1 => if v1 = true then (f_X10_in b 0 6 R1).bind fun v3 => if v3 = true then xlet (w4 (38 + w4 (4 * (i : Int)))) fun x5 => if 4 ≤ b then (f_X10_isBooklet 323 R1).bind fun v7 => if v7.1 = true then (f_X10_layNotes 323 v7.2).bind fun v9 => if 0 ≤ (i : Int) ∧ (i : Int) < 12 then xlet (v9 (323 + 16) (i : Int).toNat) fun x11 => if 0 ≤ x11 then (if b = 4 then (if v9 (323 + 1) 11 ≠ 0 then (if 0 ≤ w4 (Int.tdiv x11 (v9 (323 + 1) 11)) ∧ w4 (Int.tdiv x11 (v9 (323 + 1) 11)) < 32 then some (v9 (323 + 15) (w4 (Int.tdiv x11 (v9 (323 + 1) 11))).toNat, v9) else none) else none) else if b = 5 then (if v9 (323 + 1) 11 ≠ 0 then some (Int.tmod x11 (v9 (323 + 1) 11), v9) else none) else (if 0 ≤ w4 (x5 + 2) ∧ w4 (x5 + 2) < 464 then (if v9 (323 + 1) 11 ≠ 0 then (if 0 ≤ w4 (Int.tdiv (w4 (w4 (x11 + v9 (323 + 1) (w4 (x5 + 2)).toNat) - 1)) (v9 (323 + 1) 11)) ∧ w4 (Int.tdiv (w4 (w4 (x11 + v9 (323 + 1) (w4 (x5 + 2)).toNat) - 1)) (v9 (323 + 1) 11)) < 32 then some (v9 (323 + 15) (w4 (Int.tdiv (w4 (w4 (x11 + v9 (323 + 1) (w4 (x5 + 2)).toNat) - 1)) (v9 (323 + 1) 11))).toNat, v9) else none) else none) else none)) else some ((-9), v9) else none else some ((-9), v7.2) else (if 0 ≤ w4 (x5 + b) ∧ w4 (x5 + b) < 464 then some (R1 (323 + 1) (w4 (x5 + b)).toNat, R1) else none) else some ((-1), R1) else some ((-1), R1)) = X := fun X hX => by
            rw [show 323 + 1 = 324 from rfl, r37, e1.eq, in10, Option.bind_some, if_pos (decide_eq_true ha), in10, Option.bind_some, if_pos (decide_eq_true hb), xlet_eq, (nx0 (show i < 12 by omega)).eq, if_pos h4, b1, Option.bind_some, if_pos (show v.1 = true by rw [b2]; exact decide_eq_true hbk), b3, b6, Option.bind_some, if_pos gi, tnc, show 323 + 16 = 339 from rfl, xlet_eq, r11, e40.eq, if_pos g40, tnc, b7, hln, show 323 + 15 = 338 from rfl]
            exact hX
          by_cases hv : 0 ≤ R2 339 i
          · obtain ⟨y, hy⟩ := Int.eq_ofNat_of_zero_le hv
            have hyb := l2 hv
            have hlp : 1 ≤ lnN (R 324) i ∧ lnN (R 324) i ≤ 20 := by omega
            rw [hy] at hyb M ⊢
            have hyK : y < L * K := by omega
            obtain ⟨p1, p2, p3⟩ := pgl9 b9 hL hyK
            have hn9 : nine (y : Int) = (y : Int) := by unfold nine; rw [if_neg (by omega)]
            have p2' : (0 : Int) ≤ ((y / L : Nat) : Int) ∧ ((y / L : Nat) : Int) < 32 := by
              have := b9.2.2.2.1
              generalize y / L = q at p2 ⊢
              omega
            rw [hn9, if_neg (by omega)]
            by_cases c4 : b = 4
            · refine ⟨R2 338 (y / L), R1, R2, ?_, M _ ?_, hI2⟩
              · rw [if_pos c4, p1, Option.bind_some]
              · rw [if_pos (by omega), if_pos c4, if_pos hL0, (dvq (y := y) (L := L) (by omega)).eq, if_pos p2', tnc]
            by_cases c5 : b = 5
            · refine ⟨((y % L : Nat) : Int), R1, R2, ?_, M _ ?_, hI2⟩
              · unfold f_X2_lineOnPage
                rw [if_neg c4, if_pos c5, b9.1, if_pos (show 1 ≤ (L : Int) by omega), if_pos hL0, mdq.eq, Option.bind_some]
              · rw [if_pos (by omega), if_neg c4, if_pos c5, if_pos hL0, mdq.eq]
            · have hy2 : y + lnN (R 324) i - 1 < L * K := by omega
              obtain ⟨p4, p5, p6⟩ := pgl9 b9 hL hy2
              have p5' : (0 : Int) ≤ (((y + lnN (R 324) i - 1) / L : Nat) : Int) ∧ (((y + lnN (R 324) i - 1) / L : Nat) : Int) < 32 := by
                have := b9.2.2.2.1
                generalize (y + lnN (R 324) i - 1) / L = q at p5 ⊢
                omega
              have e8 : Qe (w4 (w4 ((y : Int) + (lnN (R 324) i : Int)) - 1)) ((y + lnN (R 324) i - 1 : Nat) : Int) := by unfold Qe; rw [w4_of (x := (y : Int) + (lnN (R 324) i : Int)) (by omega), w4_of (by omega)]; omega
              have hl9 : f_X4_linesOf 13 (i : Int) R1 = some (lnN (R 324) i : Int) := by
                unfold f_X4_linesOf
                rw [nf9 (f := 2) (m := 2) hB1 hi rfl (by omega), Option.bind_some, show 38 + 2 = 40 from rfl, hln]
              refine ⟨R2 338 ((y + lnN (R 324) i - 1) / L), R1, R2, ?_, M _ ?_, hI2⟩
              · rw [if_neg c4, if_neg c5, hl9, Option.bind_some, e8.eq, p4, Option.bind_some]
              · rw [if_pos (by omega), if_neg c4, if_neg c5, if_pos hL0, e8.eq, (dvq (y := y + lnN (R 324) i - 1) (L := L) (by omega)).eq, if_pos p5', tnc]
          · refine ⟨-9, R1, R2, ?_, M _ ?_, hI2⟩
            · unfold nine
              rw [if_pos (by omega)]
            · rw [if_neg hv]
        · obtain ⟨v, Ra, b1, b2, b3, b4, b5, b6⟩ := bkM rfl w
          refine ⟨-9, R, Ra, ?_, ?_, hI.sc b4.sc⟩
          · rw [if_neg (by rw [decide_eq_false hbk]; decide)]
          · unfold f_X10_note
            rw [show 323 + 1 = 324 from rfl, hB.1, e1.eq, in10, Option.bind_some, if_pos (decide_eq_true ha), in10, Option.bind_some, if_pos (decide_eq_true hb), xlet_eq, if_pos h4, b1, Option.bind_some, if_neg (by rw [b2, decide_eq_false hbk]; decide), b3]
      · obtain ⟨m, rfl⟩ := Int.eq_ofNat_of_zero_le hb.1
        have hm : m < 4 := by omega
        refine ⟨R 324 (38 + m + 4 * i), R, R, ?_, ?_, hI⟩
        · rw [if_neg h4, nf9 hB hi rfl hm, Option.bind_some]
        · unfold f_X10_note
          rw [show 323 + 1 = 324 from rfl, hB.1, e1.eq, in10, Option.bind_some, if_pos (decide_eq_true ha), in10, Option.bind_some, if_pos (decide_eq_true hb), xlet_eq, if_neg h4, (nx10 (show i < 12 by omega) hm).eq, if_pos (by omega), tnc]
    · refine ⟨-1, R, R, ?_, ?_, hI⟩
      · rw [if_neg (by rw [decide_eq_false hb]; decide)]
      · unfold f_X10_note
        rw [show 323 + 1 = 324 from rfl, hB.1, e1.eq, in10, Option.bind_some, if_pos (decide_eq_true ha), in10, Option.bind_some, if_neg (by rw [decide_eq_false hb]; decide)]
  · refine ⟨-1, R, R, ?_, ?_, hI⟩
    · rw [if_neg (by rw [decide_eq_false ha]; decide)]
    · unfold f_X10_note
      rw [show 323 + 1 = 324 from rfl, hB.1, e1.eq, in10, Option.bind_some, if_neg (by rw [decide_eq_false ha]; decide)]
