/-! Looking: layer, opening, hanging, together, reading, pageOf; a cut. -/
theorem cel_num : ∀ W ∈ ([1, 2, 4] : List Nat), ∀ n : Nat, n < 64 → n % 4 < W → (W : Int) ≠ 0 ∧ w4 (Int.tdiv (cel W n : Int) (W : Int)) = (cr n : Int) ∧ Int.tmod (cel W n : Int) (W : Int) = ((n % 4 : Nat) : Int) := by decide +kernel
theorem bits_num : ∀ n : Nat, n < 64 → (b4and (n : Int) 16 = 0 ↔ mir n = 0) ∧ (b4and (n : Int) 32 = 0 ↔ ups n = 0) ∧ mir n < 2 ∧ ups n < 2 := by decide +kernel
theorem asn9 {R : xN} : f_X9_asNumber true R = some 1 ∧ f_X9_asNumber false R = some 0 := ⟨rfl, rfl⟩
theorem o_layer {a b c : Int} : opN Inv (f_X9_layer 0 a b c) (f_X10_layer 323 a b c) := by
  intro R hI
  obtain ⟨H, W, g, w, r⟩ := hI.1.1
  have r4 : LRg R 6 H W g (gfn 0 (gfs (R 324))) := r.2.2.2.1
  have hw := w.gw
  have hdp := hw.dep
  have hA := area_le w.1 w.2.1
  have harea : g.1 * g.2.1 * 2 ^ g.2.2.1 = H * W := hw.2.2.2.2.2.1
  obtain ⟨Ra, b1, b2, b3⟩ := lay10 w
  have hr : Ra 324 = R 324 := funext fun j => b3 324 j (by omega) (by omega)
  have hIa := hI.sc b3.sc
  obtain ⟨m7, m8, m9, mt⟩ := id b2
  have hrc : g.1 * g.2.1 ≤ 16 := by
    have h1 := hw.2.2.1
    have h2 := hw.2.2.2.1
    exact area_le h1 h2
  have e0 : Qe (w4 ((g.1 : Int) * (g.2.1 : Int))) ((g.1 * g.2.1 : Nat) : Int) := by unfold Qe; rw [← Int.natCast_mul, w4n (by omega)]
  have e1 : Qe (w4 (((g.1 * g.2.1 : Nat) : Int) - 1)) (((g.1 * g.2.1 : Nat) : Int) - 1) := by unfold Qe; rw [w4_of (by omega)]
  generalize hd : 2 ^ g.2.2.1 = d at *
  have e2 : Qe (w4 ((d : Int) - 1)) ((d : Int) - 1) := by unfold Qe; rw [w4_of (by omega)]
  have h62 : R (0 + 6) 2 = (g.1 : Int) := r4.2.2.1
  have h63 : R (0 + 6) 3 = (g.2.1 : Int) := r4.2.2.2.1
  unfold f_X9_layer f_X10_layer
  rw [b1, Option.bind_some, m7, m8, e0.eq, e1.eq, in10, Option.bind_some]
  unfold f_X3_places
  rw [h62, h63, e0.eq, Option.bind_some, e1.eq, in9, Option.bind_some]
  by_cases ha : 0 ≤ a ∧ a ≤ ((g.1 * g.2.1 : Nat) : Int) - 1
  · rw [if_pos (decide_eq_true ha), if_pos (decide_eq_true ha), m9, e2.eq, in10, Option.bind_some, show 0 + 6 = 6 from rfl, dep9 r4 hw, hd, Option.bind_some, e2.eq, in9, Option.bind_some]
    by_cases hb : 0 ≤ b ∧ b ≤ (d : Int) - 1
    · obtain ⟨a', rfl⟩ := Int.eq_ofNat_of_zero_le ha.1
      obtain ⟨b', rfl⟩ := Int.eq_ofNat_of_zero_le hb.1
      have hi : d * a' + b' < H * W := by
        have h1 : a' + 1 ≤ g.1 * g.2.1 := by omega
        have h2 : d * (a' + 1) ≤ d * (g.1 * g.2.1) := Nat.mul_le_mul_left _ h1
        rw [Nat.mul_comm d (g.1 * g.2.1), harea, Nat.mul_succ] at h2
        omega
      have hi16 : d * a' + b' < 16 := by omega
      have hle : d * a' ≤ 16 := by omega
      have e3 : Qe (w4 (w4 ((d : Int) * (a' : Int)) + (b' : Int))) ((d * a' + b' : Nat) : Int) := by unfold Qe; rw [← Int.natCast_mul, w4n (by omega), w4_of (by omega)]; rfl
      have e4 : Qe (w4 (w4 ((a' : Int) * (d : Int)) + (b' : Int))) ((d * a' + b' : Nat) : Int) := by unfold Qe; rw [← Int.natCast_mul, Nat.mul_comm a' d, w4n (by omega), w4_of (by omega)]; rfl
      rw [if_pos (decide_eq_true hb), if_pos (decide_eq_true hb), in10, Option.bind_some, Option.bind_some, xlet_eq, e4.eq]
      generalize d * a' + b' = i at *
      obtain ⟨t1, t2, t3⟩ := hw.2.2.2.2.2.2 i hi
      have t4 : R (6 + 1) i = _ := r4.2.2.2.2.2.2 i hi
      obtain ⟨n1, n2, n3, n4⟩ := mt i hi
      generalize ht : g.2.2.2 i = n at *
      obtain ⟨c1, c2, c3⟩ := cel_num W (len_mem w.2.1) n t1 t3
      obtain ⟨q1, q2, q3, q4⟩ := bits_num n t1
      have c2' : Qe _ _ := c2
      have c3' : Qe _ _ := c3
      clear c2 c3
      have hW4 : Ra (323 + 1) 1 = (W : Int) := by rw [show 323 + 1 = 324 from rfl, hr]; exact w.2.2.2.1
      have hi2 : (0 : Int) ≤ (i : Int) ∧ (i : Int) < 16 := by omega
      by_cases hc : 0 ≤ c ∧ c ≤ 4
      · rw [if_pos (decide_eq_true hc), xlet_eq, e3.eq, if_pos hi2, xlet_eq, tnc, show Ra (323 + 5) i = _ from n1, hW4]
        by_cases z0 : c = 0
        · rw [if_pos z0, if_pos z0, if_pos c1, c2'.eq, row9 hi16 t4 t1]
          exact ⟨_, Ra, rfl, rfl, hIa⟩
        rw [if_neg z0, if_neg z0]
        by_cases z1 : c = 1
        · rw [if_pos z1, if_pos z1, if_pos c1, c3'.eq, col9 hi16 t4 t1]
          exact ⟨_, Ra, rfl, rfl, hIa⟩
        rw [if_neg z1, if_neg z1]
        by_cases z2 : c = 2
        · unfold f_X3_sideUpAt
          rw [if_pos z2, if_pos z2, if_pos hi2, show Ra (323 + 6) i = _ from n2, at3 hi16, Option.bind_some, t4, suI_eq, su_num n t1]
          exact ⟨_, Ra, rfl, rfl, hIa⟩
        rw [if_neg z2, if_neg z2]
        by_cases z3 : c = 3
        · rw [if_pos z3, if_pos z3, if_pos hi2, show Ra (323 + 8) i = _ from n4, updn9 hi16, t4, up_num n t1, Option.bind_some]
          by_cases hu : ups n = 1
          · rw [decide_eq_true hu, asn9.1, hu]
            exact ⟨_, Ra, rfl, rfl, hIa⟩
          · rw [decide_eq_false hu, asn9.2, show ups n = 0 by omega]
            exact ⟨_, Ra, rfl, rfl, hIa⟩
        rw [if_neg z3, if_neg z3, if_pos (show c = 4 by omega), if_pos hi2, show Ra (323 + 7) i = _ from n3]
        unfold f_X3_isMirrored
        rw [at3 hi16, Option.bind_some, t4]
        by_cases hu : mir n = 0
        · rw [if_pos (q1.mpr hu), Option.bind_some, asn9.2, hu]
          exact ⟨_, Ra, rfl, rfl, hIa⟩
        · rw [if_neg (fun h => hu (q1.mp h)), Option.bind_some, asn9.1, show mir n = 1 by omega]
          exact ⟨_, Ra, rfl, rfl, hIa⟩
      · rw [decide_eq_false hc, if_neg (show ¬ c = 0 by omega), if_neg (show ¬ c = 1 by omega), if_neg (show ¬ c = 2 by omega), if_neg (show ¬ c = 3 by omega), if_neg (show ¬ c = 4 by omega), if_neg (by decide : ¬ (false = true))]
        exact ⟨_, Ra, rfl, rfl, hIa⟩
    · rw [decide_eq_false hb, if_neg (by decide), if_neg (by decide)]
      exact ⟨_, Ra, rfl, rfl, hIa⟩
  · rw [decide_eq_false ha, if_neg (by decide), if_neg (by decide)]
    exact ⟨_, Ra, rfl, rfl, hIa⟩
/-- what a look at a booklet begins with -/
theorem bk_look {R : xN} (hI : Inv R) : ∃ (H W : Nat) (g : gG) (Ra : xN), SW (R 324) H W g ∧ DR R 2 (R 324) H W g ∧ Inv Ra ∧ Ra 324 = R 324 ∧ f_X3_isBooklet 6 R = some (decide (g.1 = 1 ∧ g.2.1 = 1)) ∧ (∃ v : Bool × xN, f_X10_isBooklet 323 R = some v ∧ v.1 = decide (g.1 = 1 ∧ g.2.1 = 1) ∧ v.2 = Ra) ∧ kSc R Ra ∧ ((g.1 = 1 ∧ g.2.1 = 1) → LB R 6 H W g.2.2.2 ∧ LM Ra W (H * W) g.2.2.2 ∧ 1 ≤ H * W) := by
  obtain ⟨H, W, g, w, r⟩ := hI.1.1
  obtain ⟨Ra, b1, b2, b3⟩ := isb10 w
  have hr : Ra 324 = R 324 := funext fun j => b3 324 j (by omega) (by omega)
  refine ⟨H, W, g, Ra, w, r, hI.sc b3.sc, hr, isb9 r.2.2.2.1, ⟨_, b1, rfl, rfl⟩, b3.sc, fun hb => ⟨lb_of w.gw r.2.2.2.1 hb, lm_of w.gw (by rw [hr]; exact w.2.2.2.1) b2 hb, ?_⟩⟩
  have h1 := w.gw.dep
  have h2 := (book_iff w.gw).mpr hb
  omega
theorem o_open {a b : Int} : opN Inv (f_X9_opening 0 a b) (f_X10_opening 323 a b) := by
  intro R hI
  obtain ⟨H, W, g, Ra, w, r, hIa, hr, q9, q10, -, hbk⟩ := bk_look hI
  unfold f_X9_opening f_X10_opening
  obtain ⟨vb, hv, hv1, hv2⟩ := q10
  rw [show 0 + 6 = 6 from rfl, q9, hv, Option.bind_some, Option.bind_some, hv1, hv2]
  by_cases hb : g.1 = 1 ∧ g.2.1 = 1
  · obtain ⟨L9, L10, h1⟩ := hbk hb
    have hD := L10.1
    have h8 := w.2.2.2.2.2.2.2.2.1
    have h7 := w.2.2.2.2.2.2.2.1
    have h11 := w.2.2.2.2.2.2.2.2.2.2.2.1
    rw [if_pos (decide_eq_true hb), if_pos (decide_eq_true hb), L9.1.2.2, Option.bind_some, in9, Option.bind_some, L10.2.2.2.1, in10, Option.bind_some]
    by_cases ha : 0 ≤ a ∧ a ≤ ((H * W : Nat) : Int)
    · obtain ⟨o, rfl⟩ := Int.eq_ofNat_of_zero_le ha.1
      have S9 := shut9 L9.1 (o := o) (by omega) r.2.2.2.2.1 r.2.2.2.2.2.1 h8
      have S10 := shut10 L10 (o := o) (by omega) (by rw [hr]; exact h7) (by rw [hr]; exact h8)
      rw [hr] at S10
      generalize hz : msk (R 324 8).toNat (spE (R 324)) (shN g.2.2.2 (H * W) o) = z at *
      rw [if_pos (decide_eq_true ha), if_pos (decide_eq_true ha), in10, Option.bind_some]
      by_cases hc : 0 ≤ b ∧ b ≤ 2
      · rw [if_pos (decide_eq_true hc), show 323 + 1 = 324 from rfl, hr, S10, Option.bind_some, show 0 + 2 = 2 from rfl]
        unfold f_X0_linesAt
        rw [S9, Option.bind_some, Option.bind_some, Option.bind_some, asn9.1, asn9.2]
        have r9 : R 2 9 = R 324 11 := r.2.2.2.2.2.2.2.2.1
        have e1 : Qe (w4 (1 * R 324 11)) (R 324 11) := by unfold Qe; rw [w4_of (by omega)]; omega
        have e2 : Qe (w4 (2 * R 324 11)) (R 324 11 * 2) := by unfold Qe; rw [w4_of (by omega)]; omega
        have e3 : Qe (w4 (R 324 11 * 2)) (R 324 11 * 2) := by unfold Qe; rw [w4_of (by omega)]
        rw [show 2 + 4 = 6 from rfl, L9.1.2.2, r9, e3.eq]
        by_cases c0 : b = 0
        · rw [if_pos c0, if_pos c0]
          by_cases cz : (z : Int) = 0
          · rw [if_pos cz, if_pos cz]
            refine ⟨0, Ra, rfl, ?_, hIa⟩
            by_cases co : (o : Int) = 0
            · rw [if_pos co]
            · rw [if_neg co, xlet_eq, if_pos c0]
          · rw [if_neg cz, if_neg cz]
            refine ⟨1, Ra, rfl, ?_, hIa⟩
            by_cases co : (o : Int) = 0
            · rw [if_pos co]
            · rw [if_neg co, xlet_eq, if_pos c0]
        · rw [if_neg c0, if_neg c0]
          by_cases c1 : b = 1
          · rw [if_pos c1, if_pos c1]
            refine ⟨(z : Int), Ra, rfl, ?_, hIa⟩
            by_cases co : (o : Int) = 0
            · rw [if_pos co]
            · rw [if_neg co, xlet_eq, if_neg c0, if_pos c1]
          · rw [if_neg c1, if_neg c1, if_pos (show b = 2 by omega)]
            by_cases cz : (z : Int) = 0
            · rw [if_pos cz, if_pos cz]
              by_cases co : (o : Int) = 0
              · rw [if_pos co, if_pos co, e1.eq]
                exact ⟨_, Ra, rfl, rfl, hIa⟩
              · rw [if_neg co, if_neg co, Option.bind_some, xlet_eq, xlet_eq, if_neg c0, if_neg c1, if_pos cz]
                by_cases cD : (o : Int) = ((H * W : Nat) : Int)
                · rw [if_pos cD, if_pos cD, e1.eq]
                  exact ⟨_, Ra, rfl, rfl, hIa⟩
                · rw [if_neg cD, if_neg cD, e2.eq]
                  exact ⟨_, Ra, rfl, rfl, hIa⟩
            · rw [if_neg cz, if_neg cz]
              refine ⟨0, Ra, rfl, ?_, hIa⟩
              by_cases co : (o : Int) = 0
              · rw [if_pos co]
              · rw [if_neg co, xlet_eq, if_neg c0, if_neg c1, if_neg cz]
      · rw [decide_eq_false hc, if_neg (show ¬ b = 0 by omega), if_neg (show ¬ b = 1 by omega), if_neg (show ¬ b = 2 by omega), if_neg (by decide : ¬ (false = true))]
        exact ⟨_, Ra, rfl, rfl, hIa⟩
    · rw [decide_eq_false ha, if_neg (by decide), if_neg (by decide)]
      exact ⟨_, Ra, rfl, rfl, hIa⟩
  · rw [decide_eq_false hb, if_neg (by decide), if_neg (by decide)]
    exact ⟨_, Ra, rfl, rfl, hIa⟩
