/-! All sides are printed: class and model. -/
theorem d_all {v : Int} : dSpec (f_X0_printSheet 2 311 v) (spAll v) := by
  intro R s H W g0 w r
  obtain ⟨R1, b1, b2, b3⟩ := cby (R := R) (b := 311) (i := v) w.1 w.2.1
  have kt : kTri R R1 := fun q j h => b2 q j (by omega) (by omega) (by omega)
  have r1 : DR R1 2 s H W g0 := r.fr w (fun q j _ _ => kt q j (by omega))
  have hsp := spAll_eq (v := v) w.2.2.1 w.2.2.2.1
  have hA := area_le w.1 w.2.1
  obtain ⟨vb, hv, hv1, hv2⟩ : ∃ x : Bool × xN, f_X3_foldBy 311 (H : Int) (W : Int) v R = some x ∧ x.1 = (gbk H W v).isSome ∧ x.2 = R1 := ⟨_, b1, rfl, rfl⟩
  have h30 : R (2 + 1) 0 = (H : Int) := r.1
  have h31 : R (2 + 1) 1 = (W : Int) := r.2.1
  cases hg : gbk H W v with
  | none =>
    rw [hg] at hsp hv1
    refine dErr2 (v := -1) w r kt hsp ?_
    unfold f_X0_printSheet
    rw [h30, h31, hv, Option.bind_some, hv1, hv2, if_neg (by decide)]
  | some g =>
    rw [hg] at hsp hv1
    dsimp only at hsp
    obtain ⟨c1, c2, c3, fn, c4⟩ := b3 g hg
    have l1 := lb_of c3 c4 ⟨c1, c2⟩
    by_cases hf : s 2 = 0 ∧ s 8 = 0 ∧ s 9 = 0
    · rw [if_pos hf] at hsp
      obtain ⟨R', a1, a2, a3⟩ := pa9_lp (s0 := s) (b := 311) (by omega) 6000 (2 * (H * W)) 0 0 s R1 (by omega) (by omega) (by omega) (by omega) rfl (pr_of w r1) l1
      obtain ⟨i1, i2, i3, i4⟩ := prA_inv (s0 := s) (W := W) (t := g.2.2.2) (fun p hp => by
        by_cases h : p < 2 * (H * W)
        · exact kS_lt2 c3 h
        · unfold kS
          have h2 : sdN (g.2.2.2 (p / 2)) p < 2 := sdN_lt
          have h3 : cel W (g.2.2.2 (p / 2)) < 16 := by
            unfold cel
            rcases w.2.1 with e | e | e <;> rw [e] <;> omega
          omega) (2 * (H * W)) 0 0 s (by omega) w.2.2.2.2.2.2.2.2.2.2.2.2.2.2.2.2
      generalize prA s W g.2.2.2 0 (2 * (H * W)) 0 s = z at *
      have e15 : R' 15 1 = s 87 := by rw [a3 15 1 (by omega) (by omega)]; exact r1.2.2.2.2.2.2.2.2.2.2.2.2.2 1 (by omega)
      refine dOk (R' := xup R' 15 1 (w4 (s 87 + z.1))) (H := H) (W := W) (g := g0) hsp (nerr i3) (fun j hj => by rw [u1_ne (by omega), i1 j (by omega)]) ?_ (fun q j h h' => by rw [xup_nn (by omega), a3 q j (by omega) (by omega), kt q j h']) (w.pr (fun j hj => by rw [u1_ne (by omega), i1 j (by omega)]) (fun i hi => by rw [u1_ne (by omega), u1_ne (by omega)]; exact i2 i hi)) (r1.pr w (fun j hj => by rw [u1_ne (by omega), i1 j (by omega)]) (fun q j h1 h2 h3 h4 => by rw [xup_nn (by omega), a3 q j h3 h4]) (fun i hi => ?_) (fun i hi => ?_))
      · unfold f_X0_printSheet
        rw [z0] at a1
        rw [h30, h31, hv, Option.bind_some, hv1, hv2, if_pos (by rfl), oaf9 w r1, Option.bind_some, if_pos (decide_eq_true hf), a1, xlet_eq, show 2 + 13 = 15 from rfl, e15]
      · rw [xup_nn (by omega), xup_nn (by omega), u1_ne (by omega), u1_ne (by omega)]
        exact (a2.2.2.2 i hi).1
      · by_cases hi1 : i = 1
        · subst hi1; rw [xup_eq, u1_eq]
        · rw [xup_nn (by omega), a3 15 i (by omega) (by omega), u1_ne (by omega), i1 _ (by omega)]
          exact r1.2.2.2.2.2.2.2.2.2.2.2.2.2 i hi
    · rw [if_neg hf] at hsp
      refine dErr2 (v := -2) w r kt hsp ?_
      unfold f_X0_printSheet
      rw [h30, h31, hv, Option.bind_some, hv1, hv2, if_pos (by rfl), oaf9 w r1, Option.bind_some, decide_eq_false hf, if_neg (by decide)]
