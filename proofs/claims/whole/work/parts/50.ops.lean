/-! The law's loop, out of one row a call. -/
def opM {β : Type} (Inv : xN → Prop) (f9 f10 : xN → Option (β × xN)) : Prop := ∀ R, Inv R → ∃ (r : β) (R1 R2 : xN), f9 R = some (r, R1) ∧ f10 R1 = some (r, R2) ∧ Inv R2
def opN {β : Type} (Inv : xN → Prop) (f9 : xN → Option β) (f10 : xN → Option (β × xN)) : Prop := ∀ R, Inv R → ∃ (r : β) (R2 : xN), f9 R = some r ∧ f10 R = some (r, R2) ∧ Inv R2
def opR {β : Type} (Inv : xN → Prop) (f9 f10 : xN → Option β) : Prop := ∀ R, Inv R → ∃ r : β, f9 R = some r ∧ f10 R = some r
def xOp (Inv : xN → Prop) (k : Nat) : Prop := match k with
  | 0 => ∀ u0 u1 : Int, i4 u0 → i4 u1 → opM Inv (f_X9_setSheet 0 u0 u1) (f_X10_setSheet 323 u0 u1)
  | 1 => ∀ u0 : Int, i4 u0 → opM Inv (f_X9_fold 0 u0) (f_X10_fold 323 u0)
  | 2 => opM Inv (f_X9_unfold 0) (f_X10_unfold 323)
  | 3 => ∀ u0 : Int, i4 u0 → opM Inv (f_X9_setSpine 0 u0) (f_X10_setSpine 323 u0)
  | 4 => ∀ u0 u1 u2 u3 u4 : Int, i4 u0 → i4 u1 → i4 u2 → i4 u3 → i4 u4 → opM Inv (f_X9_print 0 u0 u1 u2 u3 u4) (f_X10_print 323 u0 u1 u2 u3 u4)
  | 5 => ∀ u0 : Int, i4 u0 → opM Inv (f_X9_printAll 0 u0) (f_X10_printAll 323 u0)
  | 6 => ∀ u0 : Int, i4 u0 → opM Inv (f_X9_cut 0 u0) (f_X10_cut 323 u0)
  | 7 => ∀ u0 : Int, i4 u0 → opM Inv (f_X9_staple 0 u0) (f_X10_staple 323 u0)
  | 8 => ∀ u0 : Int, i4 u0 → opM Inv (f_X9_unstaple 0 u0) (f_X10_unstaple 323 u0)
  | 9 => ∀ u0 : Int, i4 u0 → opM Inv (f_X9_setLegs 0 u0) (f_X10_setLegs 323 u0)
  | 10 => ∀ u0 u1 u2 : Int, i4 u0 → i4 u1 → i4 u2 → opM Inv (f_X9_see 0 u0 u1 u2) (f_X10_see 323 u0 u1 u2)
  | 11 => opM Inv (f_X9_forget 0) (f_X10_forget 323)
  | 12 => ∀ u0 u1 u2 u3 : Int, i4 u0 → i4 u1 → i4 u2 → i4 u3 → opM Inv (f_X9_addNote 0 u0 u1 u2 u3) (f_X10_addNote 323 u0 u1 u2 u3)
  | 13 => ∀ u0 : Int, i4 u0 → opM Inv (f_X9_removeNote 0 u0) (f_X10_removeNote 323 u0)
  | 14 => ∀ u0 : Int, i4 u0 → opM Inv (f_X9_setLines 0 u0) (f_X10_setLines 323 u0)
  | 15 => ∀ u0 : Int, i4 u0 → opM Inv (f_X9_take 0 u0) (f_X10_take 323 u0)
  | 16 => ∀ u0 : Int, i4 u0 → opM Inv (f_X9_restore 0 u0) (f_X10_restore 323 u0)
  | 17 => opM Inv (f_X9_undo 0) (f_X10_undo 323)
  | 18 => ∀ u0 : Int, i4 u0 → opM Inv (f_X9_append 0 u0) (f_X10_append 323 u0)
  | 19 => opM Inv (f_X9_clearText 0) (f_X10_clearText 323)
  | 20 => opM Inv (f_X9_run 0) (f_X10_run 323)
  | 21 => ∀ u0 : Int, i4 u0 → opN Inv (f_X9_count 0 u0) (f_X10_count 323 u0)
  | 22 => ∀ u0 u1 u2 u3 : Int, i4 u0 → i4 u1 → i4 u2 → i4 u3 → opR Inv (f_X9_side 0 u0 u1 u2 u3) (f_X10_side 323 u0 u1 u2 u3)
  | 23 => ∀ u0 u1 u2 : Int, i4 u0 → i4 u1 → i4 u2 → opN Inv (f_X9_layer 0 u0 u1 u2) (f_X10_layer 323 u0 u1 u2)
  | 24 => ∀ u0 u1 : Int, i4 u0 → i4 u1 → opM Inv (f_X9_page 0 u0 u1) (f_X10_page 323 u0 u1)
  | 25 => ∀ u0 u1 : Int, i4 u0 → i4 u1 → opN Inv (f_X9_opening 0 u0 u1) (f_X10_opening 323 u0 u1)
  | 26 => ∀ u0 : Int, i4 u0 → opN Inv (f_X9_hanging 0 u0) (f_X10_hanging 323 u0)
  | 27 => ∀ u0 u1 : Int, i4 u0 → i4 u1 → opN Inv (f_X9_together 0 u0 u1) (f_X10_together 323 u0 u1)
  | 28 => opN Inv (f_X9_pieces 0) (f_X10_pieces 323)
  | 29 => ∀ u0 : Int, i4 u0 → opN Inv (f_X9_reading 0 u0) (f_X10_reading 323 u0)
  | 30 => ∀ u0 : Int, i4 u0 → opN Inv (f_X9_pageOf 0 u0) (f_X10_pageOf 323 u0)
  | 31 => ∀ u0 u1 : Int, i4 u0 → i4 u1 → opM Inv (f_X9_note 0 u0 u1) (f_X10_note 323 u0 u1)
  | 32 => ∀ u0 u1 : Int, i4 u0 → i4 u1 → opM Inv (f_X9_index 0 u0 u1) (f_X10_index 323 u0 u1)
  | 33 => ∀ u0 : Int, i4 u0 → opR Inv (f_X9_effort 0 u0) (f_X10_effort 323 u0)
  | 34 => ∀ u0 : Int, i4 u0 → opM Inv (f_X9_fitting 0 u0) (f_X10_fitting 323 u0)
  | 35 => ∀ u0 : Int, i4 u0 → opM Inv (f_X9_readsBy 0 u0) (f_X10_readsBy 323 u0)
  | 36 => ∀ u0 : Int, i4 u0 → opM Inv (f_X9_cutsFor 0 u0) (f_X10_cutsFor 323 u0)
  | 37 => ∀ u0 : Int, i4 u0 → opM Inv (f_X9_best 0 u0) (f_X10_best 323 u0)
  | _ => True
set_option maxRecDepth 20000 in
set_option maxHeartbeats 4000000 in
theorem xloop {Inv : xN → Prop} (O : ∀ k : Nat, xOp Inv k) {xs : Nat → Int} {xn : Int} (h0 : 0 ≤ xn) (h1 : xn ≤ 3072) (hx : ∀ j, i4 (xs j)) : ∀ (n : Nat) (y : Int) (R : xN), 0 ≤ y → xn < y + 6 * (n : Int) + 6 → Inv R → ∃ R2, lp_L_law_18 xs xn 0 323 (n + 1) y R (fun _ R => some (true, R)) = some (true, R2) := by
  intro n
  induction n with
  | zero =>
    intro y R hy hn hI
    rw [lp_L_law_18, w4_of (by omega), if_pos (by omega)]
    exact ⟨R, rfl⟩
  | succ n ih =>
    intro y R hy hn hI
    have hs : ((n + 1 : Nat) : Int) = (n : Int) + 1 := by omega
    rw [hs] at hn
    rw [lp_L_law_18, w4_of (show _ by omega)]
    by_cases hlt : xn - 6 < y
    · rw [if_pos hlt]
      exact ⟨R, rfl⟩
    rw [if_neg hlt, if_pos (show 0 ≤ y ∧ y < xn by omega)]
    have c1 : 0 ≤ y + 1 ∧ y + 1 < xn := by omega
    have c2 : 0 ≤ y + 2 ∧ y + 2 < xn := by omega
    have c3 : 0 ≤ y + 3 ∧ y + 3 < xn := by omega
    have c4 : 0 ≤ y + 4 ∧ y + 4 < xn := by omega
    have c5 : 0 ≤ y + 5 ∧ y + 5 < xn := by omega
    have e1 : w4 (y + 1) = y + 1 := w4_of (by omega)
    have e2 : w4 (y + 2) = y + 2 := w4_of (by omega)
    have e3 : w4 (y + 3) = y + 3 := w4_of (by omega)
    have e4 : w4 (y + 4) = y + 4 := w4_of (by omega)
    have e5 : w4 (y + 5) = y + 5 := w4_of (by omega)
    have e6 : w4 (y + 6) = y + 6 := w4_of (by omega)
    simp only [e1, e2, e3, e4, e5, e6, xlet, if_pos c1, if_pos c2, if_pos c3, if_pos c4, if_pos c5]
    have ih' : ∀ R, Inv R → ∃ R2, lp_L_law_18 xs xn 0 323 (n + 1) (y + 6) R (fun _ R => some (true, R)) = some (true, R2) := fun R h => ih (y + 6) R (by omega) (by omega) h
    generalize b4and (xs y.toNat) 63 = op
    by_cases k0 : op = 0
    · rw [if_pos k0]
      obtain ⟨r, R1, R2, a1, a2, a3⟩ := O 0 _ _ (hx _) (hx _) R hI
      rw [a1, Option.bind_some]
      dsimp only
      rw [a2, Option.bind_some]
      dsimp only [xlet]
      rw [if_pos rfl]
      exact ih' R2 a3
    rw [if_neg k0]
    by_cases k1 : op = 1
    · rw [if_pos k1]
      obtain ⟨r, R1, R2, a1, a2, a3⟩ := O 1 _ (hx _) R hI
      rw [a1, Option.bind_some]
      dsimp only
      rw [a2, Option.bind_some]
      dsimp only [xlet]
      rw [if_pos rfl]
      exact ih' R2 a3
    rw [if_neg k1]
    by_cases k2 : op = 2
    · rw [if_pos k2]
      obtain ⟨r, R1, R2, a1, a2, a3⟩ := O 2 R hI
      rw [a1, Option.bind_some]
      dsimp only
      rw [a2, Option.bind_some]
      dsimp only [xlet]
      rw [if_pos rfl]
      exact ih' R2 a3
    rw [if_neg k2]
    by_cases k3 : op = 3
    · rw [if_pos k3]
      obtain ⟨r, R1, R2, a1, a2, a3⟩ := O 3 _ (hx _) R hI
      rw [a1, Option.bind_some]
      dsimp only
      rw [a2, Option.bind_some]
      dsimp only [xlet]
      rw [if_pos rfl]
      exact ih' R2 a3
    rw [if_neg k3]
    by_cases k4 : op = 4
    · rw [if_pos k4]
      obtain ⟨r, R1, R2, a1, a2, a3⟩ := O 4 _ _ _ _ _ (hx _) (hx _) (hx _) (hx _) (hx _) R hI
      rw [a1, Option.bind_some]
      dsimp only
      rw [a2, Option.bind_some]
      dsimp only [xlet]
      rw [if_pos rfl]
      exact ih' R2 a3
    rw [if_neg k4]
    by_cases k5 : op = 5
    · rw [if_pos k5]
      obtain ⟨r, R1, R2, a1, a2, a3⟩ := O 5 _ (hx _) R hI
      rw [a1, Option.bind_some]
      dsimp only
      rw [a2, Option.bind_some]
      dsimp only [xlet]
      rw [if_pos rfl]
      exact ih' R2 a3
    rw [if_neg k5]
    by_cases k6 : op = 6
    · rw [if_pos k6]
      obtain ⟨r, R1, R2, a1, a2, a3⟩ := O 6 _ (hx _) R hI
      rw [a1, Option.bind_some]
      dsimp only
      rw [a2, Option.bind_some]
      dsimp only [xlet]
      rw [if_pos rfl]
      exact ih' R2 a3
    rw [if_neg k6]
    by_cases k7 : op = 7
    · rw [if_pos k7]
      obtain ⟨r, R1, R2, a1, a2, a3⟩ := O 7 _ (hx _) R hI
      rw [a1, Option.bind_some]
      dsimp only
      rw [a2, Option.bind_some]
      dsimp only [xlet]
      rw [if_pos rfl]
      exact ih' R2 a3
    rw [if_neg k7]
    by_cases k8 : op = 8
    · rw [if_pos k8]
      obtain ⟨r, R1, R2, a1, a2, a3⟩ := O 8 _ (hx _) R hI
      rw [a1, Option.bind_some]
      dsimp only
      rw [a2, Option.bind_some]
      dsimp only [xlet]
      rw [if_pos rfl]
      exact ih' R2 a3
    rw [if_neg k8]
    by_cases k9 : op = 9
    · rw [if_pos k9]
      obtain ⟨r, R1, R2, a1, a2, a3⟩ := O 9 _ (hx _) R hI
      rw [a1, Option.bind_some]
      dsimp only
      rw [a2, Option.bind_some]
      dsimp only [xlet]
      rw [if_pos rfl]
      exact ih' R2 a3
    rw [if_neg k9]
    by_cases k10 : op = 10
    · rw [if_pos k10]
      obtain ⟨r, R1, R2, a1, a2, a3⟩ := O 10 _ _ _ (hx _) (hx _) (hx _) R hI
      rw [a1, Option.bind_some]
      dsimp only
      rw [a2, Option.bind_some]
      dsimp only [xlet]
      rw [if_pos rfl]
      exact ih' R2 a3
    rw [if_neg k10]
    by_cases k11 : op = 11
    · rw [if_pos k11]
      obtain ⟨r, R1, R2, a1, a2, a3⟩ := O 11 R hI
      rw [a1, Option.bind_some]
      dsimp only
      rw [a2, Option.bind_some]
      dsimp only [xlet]
      rw [if_pos rfl]
      exact ih' R2 a3
    rw [if_neg k11]
    by_cases k12 : op = 12
    · rw [if_pos k12]
      obtain ⟨r, R1, R2, a1, a2, a3⟩ := O 12 _ _ _ _ (hx _) (hx _) (hx _) (hx _) R hI
      rw [a1, Option.bind_some]
      dsimp only
      rw [a2, Option.bind_some]
      dsimp only [xlet]
      rw [if_pos rfl]
      exact ih' R2 a3
    rw [if_neg k12]
    by_cases k13 : op = 13
    · rw [if_pos k13]
      obtain ⟨r, R1, R2, a1, a2, a3⟩ := O 13 _ (hx _) R hI
      rw [a1, Option.bind_some]
      dsimp only
      rw [a2, Option.bind_some]
      dsimp only [xlet]
      rw [if_pos rfl]
      exact ih' R2 a3
    rw [if_neg k13]
    by_cases k14 : op = 14
    · rw [if_pos k14]
      obtain ⟨r, R1, R2, a1, a2, a3⟩ := O 14 _ (hx _) R hI
      rw [a1, Option.bind_some]
      dsimp only
      rw [a2, Option.bind_some]
      dsimp only [xlet]
      rw [if_pos rfl]
      exact ih' R2 a3
    rw [if_neg k14]
    by_cases k15 : op = 15
    · rw [if_pos k15]
      obtain ⟨r, R1, R2, a1, a2, a3⟩ := O 15 _ (hx _) R hI
      rw [a1, Option.bind_some]
      dsimp only
      rw [a2, Option.bind_some]
      dsimp only [xlet]
      rw [if_pos rfl]
      exact ih' R2 a3
    rw [if_neg k15]
    by_cases k16 : op = 16
    · rw [if_pos k16]
      obtain ⟨r, R1, R2, a1, a2, a3⟩ := O 16 _ (hx _) R hI
      rw [a1, Option.bind_some]
      dsimp only
      rw [a2, Option.bind_some]
      dsimp only [xlet]
      rw [if_pos rfl]
      exact ih' R2 a3
    rw [if_neg k16]
    by_cases k17 : op = 17
    · rw [if_pos k17]
      obtain ⟨r, R1, R2, a1, a2, a3⟩ := O 17 R hI
      rw [a1, Option.bind_some]
      dsimp only
      rw [a2, Option.bind_some]
      dsimp only [xlet]
      rw [if_pos rfl]
      exact ih' R2 a3
    rw [if_neg k17]
    by_cases k18 : op = 18
    · rw [if_pos k18]
      obtain ⟨r, R1, R2, a1, a2, a3⟩ := O 18 _ (hx _) R hI
      rw [a1, Option.bind_some]
      dsimp only
      rw [a2, Option.bind_some]
      dsimp only [xlet]
      rw [if_pos rfl]
      exact ih' R2 a3
    rw [if_neg k18]
    by_cases k19 : op = 19
    · rw [if_pos k19]
      obtain ⟨r, R1, R2, a1, a2, a3⟩ := O 19 R hI
      rw [a1, Option.bind_some]
      dsimp only
      rw [a2, Option.bind_some]
      dsimp only [xlet]
      rw [if_pos rfl]
      exact ih' R2 a3
    rw [if_neg k19]
    by_cases k20 : op = 20
    · rw [if_pos k20]
      obtain ⟨r, R1, R2, a1, a2, a3⟩ := O 20 R hI
      rw [a1, Option.bind_some]
      dsimp only
      rw [a2, Option.bind_some]
      dsimp only [xlet]
      rw [if_pos rfl]
      exact ih' R2 a3
    rw [if_neg k20]
    by_cases k21 : op = 21
    · rw [if_pos k21]
      obtain ⟨r, R2, a1, a2, a3⟩ := O 21 _ (hx _) R hI
      rw [a1, Option.bind_some, a2, Option.bind_some]
      dsimp only
      rw [if_pos rfl]
      exact ih' R2 a3
    rw [if_neg k21]
    by_cases k22 : op = 22
    · rw [if_pos k22]
      obtain ⟨r, a1, a2⟩ := O 22 _ _ _ _ (hx _) (hx _) (hx _) (hx _) R hI
      rw [a1, Option.bind_some, a2, Option.bind_some, if_pos rfl]
      exact ih' R hI
    rw [if_neg k22]
    by_cases k23 : op = 23
    · rw [if_pos k23]
      obtain ⟨r, R2, a1, a2, a3⟩ := O 23 _ _ _ (hx _) (hx _) (hx _) R hI
      rw [a1, Option.bind_some, a2, Option.bind_some]
      dsimp only
      rw [if_pos rfl]
      exact ih' R2 a3
    rw [if_neg k23]
    by_cases k24 : op = 24
    · rw [if_pos k24]
      obtain ⟨r, R1, R2, a1, a2, a3⟩ := O 24 _ _ (hx _) (hx _) R hI
      rw [a1, Option.bind_some]
      dsimp only
      rw [a2, Option.bind_some]
      dsimp only [xlet]
      rw [if_pos rfl]
      exact ih' R2 a3
    rw [if_neg k24]
    by_cases k25 : op = 25
    · rw [if_pos k25]
      obtain ⟨r, R2, a1, a2, a3⟩ := O 25 _ _ (hx _) (hx _) R hI
      rw [a1, Option.bind_some, a2, Option.bind_some]
      dsimp only
      rw [if_pos rfl]
      exact ih' R2 a3
    rw [if_neg k25]
    by_cases k26 : op = 26
    · rw [if_pos k26]
      obtain ⟨r, R2, a1, a2, a3⟩ := O 26 _ (hx _) R hI
      rw [a1, Option.bind_some, a2, Option.bind_some]
      dsimp only
      rw [if_pos rfl]
      exact ih' R2 a3
    rw [if_neg k26]
    by_cases k27 : op = 27
    · rw [if_pos k27]
      obtain ⟨r, R2, a1, a2, a3⟩ := O 27 _ _ (hx _) (hx _) R hI
      rw [a1, Option.bind_some, a2, Option.bind_some]
      dsimp only
      rw [if_pos rfl]
      exact ih' R2 a3
    rw [if_neg k27]
    by_cases k28 : op = 28
    · rw [if_pos k28]
      obtain ⟨r, R2, a1, a2, a3⟩ := O 28 R hI
      rw [a1, Option.bind_some, a2, Option.bind_some]
      dsimp only
      rw [if_pos rfl]
      exact ih' R2 a3
    rw [if_neg k28]
    by_cases k29 : op = 29
    · rw [if_pos k29]
      obtain ⟨r, R2, a1, a2, a3⟩ := O 29 _ (hx _) R hI
      rw [a1, Option.bind_some, a2, Option.bind_some]
      dsimp only
      rw [if_pos rfl]
      exact ih' R2 a3
    rw [if_neg k29]
    by_cases k30 : op = 30
    · rw [if_pos k30]
      obtain ⟨r, R2, a1, a2, a3⟩ := O 30 _ (hx _) R hI
      rw [a1, Option.bind_some, a2, Option.bind_some]
      dsimp only
      rw [if_pos rfl]
      exact ih' R2 a3
    rw [if_neg k30]
    by_cases k31 : op = 31
    · rw [if_pos k31]
      obtain ⟨r, R1, R2, a1, a2, a3⟩ := O 31 _ _ (hx _) (hx _) R hI
      rw [a1, Option.bind_some]
      dsimp only
      rw [a2, Option.bind_some]
      dsimp only [xlet]
      rw [if_pos rfl]
      exact ih' R2 a3
    rw [if_neg k31]
    by_cases k32 : op = 32
    · rw [if_pos k32]
      obtain ⟨r, R1, R2, a1, a2, a3⟩ := O 32 _ _ (hx _) (hx _) R hI
      rw [a1, Option.bind_some]
      dsimp only
      rw [a2, Option.bind_some]
      dsimp only [xlet]
      rw [if_pos rfl]
      exact ih' R2 a3
    rw [if_neg k32]
    by_cases k33 : op = 33
    · rw [if_pos k33]
      obtain ⟨r, a1, a2⟩ := O 33 _ (hx _) R hI
      rw [a1, Option.bind_some, a2, Option.bind_some, if_pos rfl]
      exact ih' R hI
    rw [if_neg k33]
    by_cases k34 : op = 34
    · rw [if_pos k34]
      obtain ⟨r, R1, R2, a1, a2, a3⟩ := O 34 _ (hx _) R hI
      rw [a1, Option.bind_some]
      dsimp only
      rw [a2, Option.bind_some]
      dsimp only [xlet]
      rw [if_pos rfl]
      exact ih' R2 a3
    rw [if_neg k34]
    by_cases k35 : op = 35
    · rw [if_pos k35]
      obtain ⟨r, R1, R2, a1, a2, a3⟩ := O 35 _ (hx _) R hI
      rw [a1, Option.bind_some]
      dsimp only
      rw [a2, Option.bind_some]
      dsimp only [xlet]
      rw [if_pos rfl]
      exact ih' R2 a3
    rw [if_neg k35]
    by_cases k36 : op = 36
    · rw [if_pos k36]
      obtain ⟨r, R1, R2, a1, a2, a3⟩ := O 36 _ (hx _) R hI
      rw [a1, Option.bind_some]
      dsimp only
      rw [a2, Option.bind_some]
      dsimp only [xlet]
      rw [if_pos rfl]
      exact ih' R2 a3
    rw [if_neg k36]
    by_cases k37 : op = 37
    · rw [if_pos k37]
      obtain ⟨r, R1, R2, a1, a2, a3⟩ := O 37 _ (hx _) R hI
      rw [a1, Option.bind_some]
      dsimp only
      rw [a2, Option.bind_some]
      dsimp only [xlet]
      rw [if_pos rfl]
      exact ih' R2 a3
    rw [if_neg k37]
    exact ih' R hI
theorem xpure_of {Inv : xN → Prop} (O : ∀ k : Nat, xOp Inv k) (hI : ∀ R, xi9 R 0 → xi10 R 323 → Inv R) : xPure := fun xs xn h0 h1 hx R1 i1 i2 =>
  have ⟨R2, h⟩ := xloop O h0 h1 hx xn.toNat 0 R1 (by omega) (by omega) (hI R1 i1 i2)
  ⟨_, R2, h⟩
