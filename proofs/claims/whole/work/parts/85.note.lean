/-! Actions of a desk: notes. -/
def put4 (s : Nat → Int) (a b c d : Int) : Nat → Int := u1 (u1 (u1 (u1 (u1 s (38 + 4 * (s 37).toNat) a) (39 + 4 * (s 37).toNat) b) (40 + 4 * (s 37).toNat) c) (41 + 4 * (s 37).toNat) d) 37 (s 37 + 1)
def spNote (a b c d : Int) : sSp := fun s => if 0 ≤ a ∧ a ≤ 99 then (if 0 ≤ b ∧ b ≤ 9 then (if 1 ≤ c ∧ c ≤ 20 then (if 0 ≤ d ∧ d ≤ 1 then (if s 37 = 12 then (-3, s) else (s 37, put4 s a b c d)) else (-1, s)) else (-1, s)) else (-1, s)) else (-1, s)
theorem d_note {a b c d : Int} : dSpec (f_X4_put 13 a b c d) (spNote a b c d) := by
  intro R s H W g w r
  obtain ⟨k1, k2, k3, k4, k5, k6, k7, k8, k9, k10, k11, k12, k13, k14, k15, k16, k17⟩ := id w
  obtain ⟨r1, r2, r3, r4, r5, r6, r7, r8, r9, r10, r11, r12, r13, r14⟩ := id r
  by_cases h1 : 0 ≤ a ∧ a ≤ 99
  · by_cases h2 : 0 ≤ b ∧ b ≤ 9
    · by_cases h3 : 1 ≤ c ∧ c ≤ 20
      · by_cases h4 : 0 ≤ d ∧ d ≤ 1
        · have r12' : R 13 1 = s 37 := r12
          by_cases h5 : s 37 = 12
          · refine dErr (v := -3) w r ?_ ?_
            · unfold spNote; rw [if_pos h1, if_pos h2, if_pos h3, if_pos h4, if_pos h5]
            · unfold f_X4_put
              rw [in9, Option.bind_some, if_pos (decide_eq_true h1), in9, Option.bind_some, if_pos (decide_eq_true h2), in9, Option.bind_some, if_pos (decide_eq_true h3), in9, Option.bind_some, if_pos (decide_eq_true h4), in9, Option.bind_some, r12', h5, if_neg (by decide)]
          · obtain ⟨m, hm⟩ := Int.eq_ofNat_of_zero_le k15.1
            have hm8 : m < 12 := by omega
            have ht : (s 37).toNat = m := by omega
            have hj : ∀ j : Nat, ¬ (37 ≤ j ∧ j < 86) → put4 s a b c d j = s j := fun j hj => by
              unfold put4
              rw [ht, u1_ne (by omega), u1_ne (by omega), u1_ne (by omega), u1_ne (by omega), u1_ne (by omega)]
            have c12 : put4 s a b c d 37 = ((m + 1 : Nat) : Int) := by unfold put4; rw [u1_eq]; omega
            have ck : ∀ k : Nat, k < 12 → put4 s a b c d (38 + 4 * k) = (if k = m then a else s (38 + 4 * k)) ∧ put4 s a b c d (39 + 4 * k) = (if k = m then b else s (39 + 4 * k)) ∧ put4 s a b c d (40 + 4 * k) = (if k = m then c else s (40 + 4 * k)) ∧ put4 s a b c d (41 + 4 * k) = (if k = m then d else s (41 + 4 * k)) := fun k hk => by
              unfold put4
              rw [ht]
              unfold u1
              by_cases hkm : k = m
              · subst hkm
                refine ⟨?_, ?_, ?_, ?_⟩
                · rw [if_neg (by omega), if_neg (by omega), if_neg (by omega), if_neg (by omega), if_pos rfl, if_pos rfl]
                · rw [if_neg (by omega), if_neg (by omega), if_neg (by omega), if_pos rfl, if_pos rfl]
                · rw [if_neg (by omega), if_neg (by omega), if_pos rfl, if_pos rfl]
                · rw [if_neg (by omega), if_pos rfl, if_pos rfl]
              · refine ⟨?_, ?_, ?_, ?_⟩ <;> rw [if_neg (by omega), if_neg (by omega), if_neg (by omega), if_neg (by omega), if_neg (by omega), if_neg hkm]
            refine dOk (v := s 37) (s' := put4 s a b c d) (R' := xup (xup (xup (xup (xup R 14 (4 * m) a) 14 (4 * m + 1) b) 14 (4 * m + 2) c) 14 (4 * m + 3) d) 13 1 ((m + 1 : Nat) : Int)) (H := H) (W := W) (g := g) ?_ (nerr (by omega)) (fun j h => hj j (by omega)) ?_ (fun q j h _ => by rw [xup_nn (by omega), xup_nn (by omega), xup_nn (by omega), xup_nn (by omega), xup_nn (by omega)]) (w.nt (fun j _ h => hj j h) ?_ (fun k hk => ?_)) (r.nt w (fun j _ h => hj j h) (fun q j _ _ h h' => by rw [xup_nn (by omega), xup_nn (by omega), xup_nn (by omega), xup_nn (by omega), xup_nn (by omega)]) ?_ (fun k hk => ?_))
            · unfold spNote; rw [if_pos h1, if_pos h2, if_pos h3, if_pos h4, if_neg h5]
            · have e2 : Qe (w4 ((m : Int) + 1)) (((m + 1 : Nat) : Int)) := by unfold Qe; rw [w4_of (by omega)]; rfl
              have e3 : Qe (w4 (w4 ((m : Int) * 4) + 0)) (((4 * m : Nat) : Int)) := by unfold Qe; rw [w4_of (x := _ * 4) (by omega), w4_of (by omega)]; omega
              have e4 : Qe (w4 (w4 ((m : Int) * 4) + 1)) (((4 * m + 1 : Nat) : Int)) := by unfold Qe; rw [w4_of (x := _ * 4) (by omega), w4_of (by omega)]; omega
              have e5 : Qe (w4 (w4 ((m : Int) * 4) + 2)) (((4 * m + 2 : Nat) : Int)) := by unfold Qe; rw [w4_of (x := _ * 4) (by omega), w4_of (by omega)]; omega
              have e6 : Qe (w4 (w4 ((m : Int) * 4) + 3)) (((4 * m + 3 : Nat) : Int)) := by unfold Qe; rw [w4_of (x := _ * 4) (by omega), w4_of (by omega)]; omega
              have e7 : Qe (w4 (((m + 1 : Nat) : Int) - 1)) ((m : Int)) := by unfold Qe; rw [w4_of (by omega)]; omega
              unfold f_X4_put
              rw [in9, Option.bind_some, if_pos (decide_eq_true h1), in9, Option.bind_some, if_pos (decide_eq_true h2), in9, Option.bind_some, if_pos (decide_eq_true h3), in9, Option.bind_some, if_pos (decide_eq_true h4), in9, Option.bind_some, r12', hm, if_pos (decide_eq_true (by omega))]
              simp only [xlet, Nat.reduceAdd, xup_get, Nat.reduceEqDiff, if_false, if_true, r12', hm, e2.eq, e3.eq, e4.eq, e5.eq, e6.eq, e7.eq, Int.toNat_natCast]
              rw [if_pos (by omega), if_pos (by omega), if_pos (by omega), if_pos (by omega)]
            · rw [c12]; omega
            · rw [c12] at hk
              obtain ⟨o1, o2, o3, o4⟩ := ck k (by omega)
              rw [o1, o2, o3, o4]
              by_cases hkm : k = m
              · rw [if_pos hkm, if_pos hkm, if_pos hkm, if_pos hkm]; omega
              · rw [if_neg hkm, if_neg hkm, if_neg hkm, if_neg hkm]; exact k16 k (by omega)
            · rw [xup_eq, c12]
            · rw [c12] at hk
              have old : (k : Int) < 4 * s 37 → R 14 k = s (38 + k) := fun h => r13 k h
              simp only [xup_get, Nat.reduceEqDiff, if_false, if_true]
              unfold put4 u1
              rw [ht]
              by_cases q3 : k = 4 * m + 3
              · rw [if_pos q3, if_neg (by omega), if_pos (by omega)]
              · rw [if_neg q3]
                by_cases q2 : k = 4 * m + 2
                · rw [if_pos q2, if_neg (by omega), if_neg (by omega), if_pos (by omega)]
                · rw [if_neg q2]
                  by_cases q1 : k = 4 * m + 1
                  · rw [if_pos q1, if_neg (by omega), if_neg (by omega), if_neg (by omega), if_pos (by omega)]
                  · rw [if_neg q1]
                    by_cases q0 : k = 4 * m
                    · rw [if_pos q0, if_neg (by omega), if_neg (by omega), if_neg (by omega), if_neg (by omega), if_pos (by omega)]
                    · rw [if_neg q0, if_neg (by omega), if_neg (by omega), if_neg (by omega), if_neg (by omega), if_neg (by omega)]
                      exact old (by omega)
        · refine dErr (v := -1) w r ?_ ?_
          · unfold spNote; rw [if_pos h1, if_pos h2, if_pos h3, if_neg h4]
          · unfold f_X4_put
            rw [in9, Option.bind_some, if_pos (decide_eq_true h1), in9, Option.bind_some, if_pos (decide_eq_true h2), in9, Option.bind_some, if_pos (decide_eq_true h3), in9, Option.bind_some, decide_eq_false h4, if_neg (by decide)]
      · refine dErr (v := -1) w r ?_ ?_
        · unfold spNote; rw [if_pos h1, if_pos h2, if_neg h3]
        · unfold f_X4_put
          rw [in9, Option.bind_some, if_pos (decide_eq_true h1), in9, Option.bind_some, if_pos (decide_eq_true h2), in9, Option.bind_some, decide_eq_false h3, if_neg (by decide)]
    · refine dErr (v := -1) w r ?_ ?_
      · unfold spNote; rw [if_pos h1, if_neg h2]
      · unfold f_X4_put
        rw [in9, Option.bind_some, if_pos (decide_eq_true h1), in9, Option.bind_some, decide_eq_false h2, if_neg (by decide)]
  · refine dErr (v := -1) w r ?_ ?_
    · unfold spNote; rw [if_neg h1]
    · unfold f_X4_put
      rw [in9, Option.bind_some, decide_eq_false h1, if_neg (by decide)]
theorem w_note {a b c d : Int} : wSpec (f_X10_addNote 323 a b c d) (spNote a b c d) := by
  intro R H W g w
  obtain ⟨k1, k2, k3, k4, k5, k6, k7, k8, k9, k10, k11, k12, k13, k14, k15, k16, k17⟩ := id w
  by_cases h1 : 0 ≤ a ∧ a ≤ 99
  · by_cases h2 : 0 ≤ b ∧ b ≤ 9
    · by_cases h3 : 1 ≤ c ∧ c ≤ 20
      · by_cases h4 : 0 ≤ d ∧ d ≤ 1
        · by_cases h5 : R 324 37 = 12
          · refine wErr (v := -3) ?_ err3 ?_ kLay.refl
            · unfold spNote; rw [if_pos h1, if_pos h2, if_pos h3, if_pos h4, if_pos h5]
            · unfold f_X10_addNote
              rw [in10, Option.bind_some, if_pos (decide_eq_true h1), in10, Option.bind_some, if_pos (decide_eq_true h2), in10, Option.bind_some, if_pos (decide_eq_true h3), in10, Option.bind_some, if_pos (decide_eq_true h4), if_pos h5]
          · obtain ⟨m, hm⟩ := Int.eq_ofNat_of_zero_le k15.1
            have hm8 : m < 12 := by omega
            have ht : (R 324 37).toNat = m := by omega
            refine wOk (v := R 324 37) (s' := put4 (R 324) a b c d) ?_ (nerr (by omega)) kLay.refl (fun Rb a1 a2 a3 => ?_)
            · unfold spNote; rw [if_pos h1, if_pos h2, if_pos h3, if_pos h4, if_neg h5]
            · have b12 : Rb 324 37 = (m : Int) := by rw [a2]; exact hm
              have e2 : Qe (w4 (38 + w4 (4 * (m : Int)))) (((38 + 4 * m : Nat) : Int)) := by unfold Qe; rw [w4_of (x := 4 * _) (by omega), w4_of (by omega)]; omega
              have e3 : Qe (w4 (((38 + 4 * m : Nat) : Int) + 1)) (((39 + 4 * m : Nat) : Int)) := by unfold Qe; rw [w4_of (by omega)]; omega
              have e4 : Qe (w4 (((38 + 4 * m : Nat) : Int) + 2)) (((40 + 4 * m : Nat) : Int)) := by unfold Qe; rw [w4_of (by omega)]; omega
              have e6 : Qe (w4 (((38 + 4 * m : Nat) : Int) + 3)) (((41 + 4 * m : Nat) : Int)) := by unfold Qe; rw [w4_of (by omega)]; omega
              have e5 : Qe (w4 ((m : Int) + 1)) (R 324 37 + 1) := by unfold Qe; rw [w4_of (by omega), hm]
              have e7 : Qe (w4 (R 324 37 + 1 - 1)) (R 324 37) := by unfold Qe; rw [w4_of (by omega)]; omega
              refine ⟨xup (xup (xup (xup (xup Rb 324 (38 + 4 * m) a) 324 (39 + 4 * m) b) 324 (40 + 4 * m) c) 324 (41 + 4 * m) d) 324 37 (R 324 37 + 1), ?_, ?_, fun q j hq => by rw [xup_nn (by omega), xup_nn (by omega), xup_nn (by omega), xup_nn (by omega), xup_nn (by omega)]⟩
              · unfold f_X10_addNote
                rw [in10, Option.bind_some, if_pos (decide_eq_true h1), in10, Option.bind_some, if_pos (decide_eq_true h2), in10, Option.bind_some, if_pos (decide_eq_true h3), in10, Option.bind_some, if_pos (decide_eq_true h4), if_neg h5, a1, Option.bind_some]
                simp only [xlet, Nat.reduceAdd]
                rw [b12, e2.eq, e3.eq, e4.eq, e6.eq, if_pos (by omega), if_pos (by omega), if_pos (by omega), if_pos (by omega), Int.toNat_natCast, Int.toNat_natCast, Int.toNat_natCast, Int.toNat_natCast]
                rw [xup_eq, xup_nn (by omega), xup_nn (by omega), xup_nn (by omega), xup_nn (by omega), b12, e5.eq, e7.eq]
              · simp only [xup_rf, a2]
                unfold put4
                rw [ht]
        · refine wErr (v := -1) ?_ err1 ?_ kLay.refl
          · unfold spNote; rw [if_pos h1, if_pos h2, if_pos h3, if_neg h4]
          · unfold f_X10_addNote
            rw [in10, Option.bind_some, if_pos (decide_eq_true h1), in10, Option.bind_some, if_pos (decide_eq_true h2), in10, Option.bind_some, if_pos (decide_eq_true h3), in10, Option.bind_some, decide_eq_false h4, if_neg (by decide)]
      · refine wErr (v := -1) ?_ err1 ?_ kLay.refl
        · unfold spNote; rw [if_pos h1, if_pos h2, if_neg h3]
        · unfold f_X10_addNote
          rw [in10, Option.bind_some, if_pos (decide_eq_true h1), in10, Option.bind_some, if_pos (decide_eq_true h2), in10, Option.bind_some, decide_eq_false h3, if_neg (by decide)]
    · refine wErr (v := -1) ?_ err1 ?_ kLay.refl
      · unfold spNote; rw [if_pos h1, if_neg h2]
      · unfold f_X10_addNote
        rw [in10, Option.bind_some, if_pos (decide_eq_true h1), in10, Option.bind_some, decide_eq_false h2, if_neg (by decide)]
  · refine wErr (v := -1) ?_ err1 ?_ kLay.refl
    · unfold spNote; rw [if_neg h1]
    · unfold f_X10_addNote
      rw [in10, Option.bind_some, decide_eq_false h1, if_neg (by decide)]
theorem o_note {a b c d : Int} : opM Inv (f_X9_addNote 0 a b c d) (f_X10_addNote 323 a b c d) := desk_row d_note w_note (fun _ => rfl)
