/-! Actions of a desk: sights and notes. -/
theorem cells5 {R : xN} {s : Nat → Int} {H W : Nat} {g : gG} (w : SW s H W g) (r : DR R 2 s H W g) : f_X5_cells 3 R = some ((H * W : Nat) : Int) := by
  have r1 : R 3 0 = (H : Int) := r.1
  have r2 : R 3 1 = (W : Int) := r.2.1
  have hA := area_le w.1 w.2.1
  unfold f_X5_cells
  rw [r1, r2, ← Int.natCast_mul, w4n (by omega)]
theorem SW.area {s : Nat → Int} {H W : Nat} {g : gG} (w : SW s H W g) : s 0 * s 1 = ((H * W : Nat) : Int) := by
  rw [w.2.2.1, w.2.2.2.1, Int.natCast_mul]
def see4 (s : Nat → Int) (p n t : Int) : Nat → Int := u1 (u1 (u1 (u1 s (13 + 3 * (s 12).toNat) p) (14 + 3 * (s 12).toNat) n) (15 + 3 * (s 12).toNat) t) 12 (s 12 + 1)
def spSee (p n t : Int) : sSp := fun s => if 0 ≤ p ∧ p ≤ 2 * (s 0 * s 1) - 1 then (if 0 ≤ n ∧ n ≤ 31 then (if 0 ≤ t ∧ t ≤ 1 then (if s 12 = 8 then (-3, s) else (s 12 + 1, see4 s p n t)) else (-1, s)) else (-1, s)) else (-1, s)
theorem d_see {p n t : Int} : dSpec (f_X0_keepSight 2 p n t) (spSee p n t) := by
  intro R s H W g w r
  obtain ⟨k1, k2, k3, k4, k5, k6, k7, k8, k9, k10, k11, k12, k13, k14, k15, k16, k17⟩ := id w
  obtain ⟨r1, r2, r3, r4, r5, r6, r7, r8, r9, r10, r11, r12, r13, r14⟩ := id r
  have hA := area_le w.1 w.2.1
  have hN := w.area
  have c5 := cells5 w r
  have e1 : Qe (w4 (w4 (((H * W : Nat) : Int) * 2) - 1)) (2 * ((H * W : Nat) : Int) - 1) := by unfold Qe; rw [w4_of (x := _ * 2) (by omega), w4_of (by omega)]; omega
  by_cases h1 : 0 ≤ p ∧ p ≤ 2 * ((H * W : Nat) : Int) - 1
  · by_cases h2 : 0 ≤ n ∧ n ≤ 31
    · by_cases h3 : 0 ≤ t ∧ t ≤ 1
      · have r10' : R 9 3 = s 12 := r10
        by_cases h4 : s 12 = 8
        · refine dErr (v := -3) w r ?_ ?_
          · unfold spSee; rw [hN, if_pos h1, if_pos h2, if_pos h3, if_pos h4]
          · unfold f_X0_keepSight f_X7_put
            simp only [Nat.reduceAdd]
            rw [c5, Option.bind_some, e1.eq, in9, Option.bind_some, if_pos (decide_eq_true h1), in9, Option.bind_some, if_pos (decide_eq_true h2), in9, Option.bind_some, if_pos (decide_eq_true h3), in9, Option.bind_some, r10', h4, if_neg (by decide)]
            rfl
        · obtain ⟨m, hm⟩ := Int.eq_ofNat_of_zero_le k13.1
          have hm8 : m < 8 := by omega
          have ht : (s 12).toNat = m := by omega
          have hj : ∀ j : Nat, ¬ (12 ≤ j ∧ j < 37) → see4 s p n t j = s j := fun j hj => by
            unfold see4
            rw [ht, u1_ne (by omega), u1_ne (by omega), u1_ne (by omega), u1_ne (by omega)]
          have c12 : see4 s p n t 12 = ((m + 1 : Nat) : Int) := by unfold see4; rw [u1_eq]; omega
          have ck : ∀ k : Nat, k < 8 → see4 s p n t (13 + 3 * k) = (if k = m then p else s (13 + 3 * k)) ∧ see4 s p n t (14 + 3 * k) = (if k = m then n else s (14 + 3 * k)) ∧ see4 s p n t (15 + 3 * k) = (if k = m then t else s (15 + 3 * k)) := fun k hk => by
            unfold see4
            rw [ht]
            unfold u1
            by_cases hkm : k = m
            · subst hkm
              refine ⟨?_, ?_, ?_⟩
              · rw [if_neg (by omega), if_neg (by omega), if_neg (by omega), if_pos rfl, if_pos rfl]
              · rw [if_neg (by omega), if_neg (by omega), if_pos rfl, if_pos rfl]
              · rw [if_neg (by omega), if_pos rfl, if_pos rfl]
            · refine ⟨?_, ?_, ?_⟩ <;> rw [if_neg (by omega), if_neg (by omega), if_neg (by omega), if_neg (by omega), if_neg hkm]
          refine dOk (v := s 12 + 1) (s' := see4 s p n t) (R' := xup (xup (xup (xup R 10 m p) 11 m n) 12 m t) 9 3 ((m + 1 : Nat) : Int)) (H := H) (W := W) (g := g) ?_ (nerr (by omega)) (fun j h => hj j (by omega)) ?_ (fun q j h _ => by rw [xup_nn (by omega), xup_nn (by omega), xup_nn (by omega), xup_nn (by omega)]) (w.sg12 (fun j _ h => hj j h) ?_ (fun k hk => ?_)) (r.sg12 w (fun j _ h => hj j h) (fun q j _ _ h => by rw [xup_nn (by omega), xup_nn (by omega), xup_nn (by omega), xup_nn (by omega)]) ?_ (fun k hk => ?_))
          · unfold spSee; rw [hN, if_pos h1, if_pos h2, if_pos h3, if_neg h4]
          · have e2 : Qe (w4 ((m : Int) + 1)) (((m + 1 : Nat) : Int)) := by unfold Qe; rw [w4_of (by omega)]; rfl
            unfold f_X0_keepSight f_X7_put
            simp only [Nat.reduceAdd]
            rw [c5, Option.bind_some, e1.eq, in9, Option.bind_some, if_pos (decide_eq_true h1), in9, Option.bind_some, if_pos (decide_eq_true h2), in9, Option.bind_some, if_pos (decide_eq_true h3), in9, Option.bind_some, r10', hm, if_pos (decide_eq_true (by omega)), if_pos (by omega)]
            simp only [xlet, xup_get, Nat.reduceEqDiff, if_false, if_true, r10', hm, Int.toNat_natCast, e2.eq]
            have c8 : (0 : Int) ≤ (m : Int) ∧ (m : Int) < 8 := by omega
            simp only [if_pos c8, Option.bind_some]
            rfl
          · rw [c12]; omega
          · rw [c12] at hk
            obtain ⟨o1, o2, o3⟩ := ck k (by omega)
            rw [o1, o2, o3]
            by_cases hkm : k = m
            · rw [if_pos hkm, if_pos hkm, if_pos hkm]; omega
            · rw [if_neg hkm, if_neg hkm, if_neg hkm]; exact k14 k (by omega)
          · rw [xup_eq, c12]
          · rw [c12] at hk
            obtain ⟨o1, o2, o3⟩ := ck k (by omega)
            rw [o1, o2, o3]
            simp only [xup_get, Nat.reduceEqDiff, if_false, if_true]
            by_cases hkm : k = m
            · simp only [if_pos hkm, and_self]
            · simp only [if_neg hkm]; exact r11 k (by omega)
      · refine dErr (v := -1) w r ?_ ?_
        · unfold spSee; rw [hN, if_pos h1, if_pos h2, if_neg h3]
        · unfold f_X0_keepSight; simp only [Nat.reduceAdd]
          rw [c5, Option.bind_some, e1.eq, in9, Option.bind_some, if_pos (decide_eq_true h1), in9, Option.bind_some, if_pos (decide_eq_true h2), in9, Option.bind_some, decide_eq_false h3, if_neg (by decide)]
    · refine dErr (v := -1) w r ?_ ?_
      · unfold spSee; rw [hN, if_pos h1, if_neg h2]
      · unfold f_X0_keepSight; simp only [Nat.reduceAdd]
        rw [c5, Option.bind_some, e1.eq, in9, Option.bind_some, if_pos (decide_eq_true h1), in9, Option.bind_some, decide_eq_false h2, if_neg (by decide)]
  · refine dErr (v := -1) w r ?_ ?_
    · unfold spSee; rw [hN, if_neg h1]
    · unfold f_X0_keepSight; simp only [Nat.reduceAdd]
      rw [c5, Option.bind_some, e1.eq, in9, Option.bind_some, decide_eq_false h1, if_neg (by decide)]
