/-! Pieces: both. -/
theorem eU_sym {cu : Nat} {t : Nat → Nat} {i j : Nat} : eU cu t i j = eU cu t j i := by
  unfold eU
  rw [eC_sym]
theorem aH_of {lg cu : Nat} {t : Nat → Nat} {i j : Nat} : aH lg cu t i j = true ↔ (i < lg ∧ j < lg) ∨ eU cu t i j = true := by
  unfold aH
  rw [Bool.or_eq_true_iff, Bool.and_eq_true_iff, decide_eq_true_iff, decide_eq_true_iff]
theorem pcs_fin {R1 : xN} {D W lg cu : Nat} {t L0 : Nat → Nat} (hcu : cu < 16) (hL : LM R1 W D t) (h8 : R1 324 8 = (cu : Int)) (hb : LbR R1 D L0) (hj : jnd D (aH lg cu t) L0 (fun a b => a < lg ∧ b < lg)) : ∃ (R2 : xN) (L : Nat → Nat), k337 R1 R2 ∧ LbR R2 D L ∧ good D (aH lg cu t) L ∧ (∀ i j, i < D → j < D → aH lg cu t i j = true → L i = L j) ∧ lp_X10_pieces_68 323 6000 0 R1 (fun z27 R28 => lp_X10_pieces_153 323 R28 6000 0 0 (fun z33 z34 => (f_X10_ones z33 R28).bind (fun v35 => some ((w4 (0 + v35)), R28)))) = some ((cK 16 (lbS L D) : Int), R2) := by
  have hD := hL.1
  have h9 := hL.2.2.2.1
  obtain ⟨R2, L, a1, a2, a3, a4, a5⟩ := pout_lp hcu 6000 D 0 R1 L0 _ (by omega) (by omega) hL h8 hb hj
  refine ⟨R2, L, a2, a3, a4, fun i j hi hj hA => ?_, ?_⟩
  · rcases aH_of.mp hA with h | h
    · exact a5 i j hi hj (Or.inl h)
    · by_cases h1 : i < j
      · exact a5 i j hi hj (Or.inr ⟨Nat.zero_le i, h1, h⟩)
      · by_cases h2 : i = j
        · rw [h2]
        · exact (a5 j i hj hi (Or.inr ⟨Nat.zero_le j, by omega, by rw [eU_sym]; exact h⟩)).symm
  · rw [z0] at a1
    have hlt : lbS L D < 65536 := lbS_lt (fun i hi => (a3 i hi).2) D (Nat.le_refl D)
    have hk := cK_le (k := 16) (v := lbS L D)
    have e5 : Qe (w4 (0 + (cK 16 (lbS L D) : Int))) (cK 16 (lbS L D) : Int) := by unfold Qe; rw [w4_of (by omega)]; omega
    have b1 := lbs_lp hD (by rw [a2 323 9 (by omega)]; exact h9) a3 6000 D 0 (by omega) (by omega) (fun z33 z34 => (f_X10_ones z33 R2).bind (fun v35 => some ((w4 (0 + v35)), R2)))
    rw [z0, show lbS L 0 = 0 from rfl, z0] at b1
    rw [a1, b1, ones16_eq hlt, Option.bind_some, e5.eq]
theorem o_pieces : opN Inv (f_X9_pieces 0) (f_X10_pieces 323) := by
  intro R hI
  obtain ⟨H, W, g, Ra, w, r, hIa, hr, q9, q10, hsc, hbk⟩ := bk_look hI
  unfold f_X9_pieces f_X10_pieces
  obtain ⟨vb, hv, hv1, hv2⟩ := q10
  rw [show 0 + 6 = 6 from rfl, q9, hv, Option.bind_some, Option.bind_some, hv1, hv2]
  by_cases hbb : g.1 = 1 ∧ g.2.1 = 1
  · obtain ⟨L9, L10, h1⟩ := hbk hbb
    have hD := L10.1
    have h8 := w.2.2.2.2.2.2.2.2.1
    have h10 := w.2.2.2.2.2.2.2.2.2.2.1
    have hPC : PC R (R 324) (H * W) g.2.2.2 := ⟨L9.1, r.2.2.2.2.2.1, r.2.2.2.2.2.2.1, r.2.2.2.2.2.2.2.1, h8, h10⟩
    have hcu : (R 324 8).toNat < 16 := by omega
    have hcc : R 324 8 = (((R 324 8).toNat : Nat) : Int) := by omega
    rw [if_pos (decide_eq_true hbb), if_pos (decide_eq_true hbb), show 323 + 1 = 324 from rfl, show 0 + 2 = 2 from rfl, hr]
    -- a start of the labels is enough
    have fin : ∀ (R1 : xN) (m : Nat), k337 Ra R1 → (∀ j : Nat, j < H * W → R1 337 j = ((if j < m then 0 else j : Nat) : Int)) → ((R 324 9 = 0 ∧ m = 1) ∨ (R 324 9 ≠ 0 ∧ (m : Int) = R 324 10)) → ∃ (r : Int) (R2 : xN), (f_X0_countPieces 2 R).bind (fun v3 => some v3) = some r ∧ lp_X10_pieces_68 323 6000 0 R1 (fun z27 R28 => lp_X10_pieces_153 323 R28 6000 0 0 (fun z33 z34 => (f_X10_ones z33 R28).bind (fun v35 => some ((w4 (0 + v35)), R28)))) = some (r, R2) ∧ Inv R2 := fun R1 m k1 hl hm => by
      have hb : LbR R1 (H * W) (fun j => if j < m then 0 else j) := fun j hj => ⟨hl j hj, by show (if j < m then 0 else j) < 16; split <;> omega⟩
      have hlg : lgN (R 324) = if R 324 9 = 0 then 0 else m := by
        unfold lgN
        by_cases c : R 324 9 = 0
        · rw [if_pos c, if_pos c]
        · rw [if_neg c, if_neg c]; omega
      have hj : jnd (H * W) (aH (lgN (R 324)) (R 324 8).toNat g.2.2.2) (fun j => if j < m then 0 else j) (fun a b => a < lgN (R 324) ∧ b < lgN (R 324)) := by
        refine ⟨fun Q hQ i j hi hj he => ?_, fun i j hi hj h => ?_⟩
        · have he' : (if i < m then 0 else i) = (if j < m then 0 else j) := he
          by_cases hij : i = j
          · rw [hij]
          · rcases hm with ⟨c, hm⟩ | ⟨c, hm⟩
            · exfalso
              subst hm
              split at he' <;> split at he' <;> omega
            · refine hQ i j hi hj (aH_of.mpr (Or.inl ?_))
              rw [hlg, if_neg c]
              split at he' <;> split at he' <;> omega
        · show (if i < m then 0 else i) = (if j < m then 0 else j)
          rw [hlg] at h
          by_cases c : R 324 9 = 0
          · rw [if_pos c] at h; omega
          · rw [if_neg c] at h
            rw [if_pos h.1, if_pos h.2]
      obtain ⟨R2, L, a1, a2, a3, a4, a5⟩ := pcs_fin hcu (L10.k k1) (by rw [k1 324 8 (by omega), hr]; exact hcc) hb hj
      have h0 := cnt_lp hPC (fun i hi => (a2 i hi).2) a3 a4 6000 (H * W) 0 0 (by omega) (by omega) (by omega) (fun b _ => by
        rw [Nat.zero_testBit]
        exact ⟨fun h => absurd h (by decide), fun ⟨k, h, _⟩ => by omega⟩) some
      rw [show lbS L 0 = 0 from rfl, cK_0, z0] at h0
      refine ⟨_, R2, ?_, a5, ?_⟩
      · unfold f_X0_countPieces
        rw [h0, Option.bind_some]
      · exact hIa.sc (fun q j h1 h2 h3 => by rw [a1 q j (by omega), k1 q j (by omega)])
    by_cases c9 : R 324 9 = 0
    · rw [if_pos c9]
      obtain ⟨R1, p1, p2, p3⟩ := pini_lp (m := 1) hD 6000 (H * W) 0 Ra (by omega) (by omega) L10.2.2.2.1
      rw [z0] at p1
      obtain ⟨rr, R2, f1, f2, f3⟩ := fin R1 1 (fun q j hq => p3 q j (by omega)) (fun j hj => p2 j (Nat.zero_le j) hj) (Or.inl ⟨c9, rfl⟩)
      refine ⟨rr, R2, f1, ?_, f3⟩
      rw [pini1]
      exact (p1 _).trans f2
    · rw [if_neg c9, xlet_eq]
      obtain ⟨m, hm⟩ := Int.eq_ofNat_of_zero_le (show 0 ≤ R 324 10 by omega)
      obtain ⟨R1, p1, p2, p3⟩ := pini_lp (m := m) hD 6000 (H * W) 0 Ra (by omega) (by omega) L10.2.2.2.1
      rw [z0] at p1
      obtain ⟨rr, R2, f1, f2, f3⟩ := fin R1 m (fun q j hq => p3 q j (by omega)) (fun j hj => p2 j (Nat.zero_le j) hj) (Or.inr ⟨c9, hm.symm⟩)
      refine ⟨rr, R2, f1, ?_, f3⟩
      rw [hm]
      exact (p1 _).trans f2
  · rw [decide_eq_false hbb, if_neg Bool.false_ne_true, if_neg Bool.false_ne_true]
    exact ⟨_, Ra, rfl, rfl, hIa⟩
