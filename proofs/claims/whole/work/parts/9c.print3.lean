/-! All sides are printed: class and model. -/
theorem d_all {v : Int} : dSpec (f_X0_printSheet 2 311 v) (spAll v) := by
  intro R s H W g0 w r
  obtain ⟨R1, b1, b2, b3⟩ := cby (R := R) (b := 311) (i := v) w.1 w.2.1
  have kt : kTri R R1 := fun q j h => b2 q j (by omega) (by omega) (by omega)
  have r1 : DR R1 2 s H W g0 := r.fr w (fun q j _ _ => kt q j (by omega))
  have hsp := spAll_eq (v := v) w.2.2.1 w.2.2.2.1
  have hA := area_le w.1 w.2.1
  obtain ⟨vb, hv, hv1, hv2⟩ : ∃ x : Bool × xN, f_X3_foldBy 311 (H : Int) (W : Int) v R = some x ∧ x.1 = (gbk H W v).isSome ∧ x.2 = R1 := ⟨_, b1, rfl, rfl⟩
  have h30 : R (2 + 1) 0 = (H : Int) := r.1
  have h31 : R (2 + 1) 1 = (W : Int) := r.2.1
  cases hg : gbk H W v with
  | none =>
    rw [hg] at hsp hv1
    refine dErr2 (v := -1) w r kt hsp ?_
    unfold f_X0_printSheet
    rw [h30, h31, hv, Option.bind_some, hv1, hv2, if_neg (by decide)]
  | some g =>
    rw [hg] at hsp hv1
    dsimp only at hsp
    obtain ⟨c1, c2, c3, fn, c4⟩ := b3 g hg
    have l1 := lb_of c3 c4 ⟨c1, c2⟩
    by_cases hf : s 2 = 0 ∧ s 8 = 0 ∧ s 9 = 0
    · rw [if_pos hf] at hsp
      obtain ⟨R', a1, a2, a3⟩ := pa9_lp (s0 := s) (b := 311) (by omega) 6000 (2 * (H * W)) 0 0 s R1 (by omega) (by omega) (by omega) (by omega) rfl (pr_of w r1) l1
      obtain ⟨i1, i2, i3, i4⟩ := prA_inv (s0 := s) (W := W) (t := g.2.2.2) (fun p hp => by
        by_cases h : p < 2 * (H * W)
        · exact kS_lt2 c3 h
        · unfold kS
          have h2 : sdN (g.2.2.2 (p / 2)) p < 2 := sdN_lt
          have h3 : cel W (g.2.2.2 (p / 2)) < 16 := by
            unfold cel
            rcases w.2.1 with e | e | e <;> rw [e] <;> omega
          omega) (2 * (H * W)) 0 0 s (by omega) w.2.2.2.2.2.2.2.2.2.2.2.2.2.2.2.2
      generalize prA s W g.2.2.2 0 (2 * (H * W)) 0 s = z at *
      have e15 : R' 15 1 = s 87 := by rw [a3 15 1 (by omega) (by omega)]; exact r1.2.2.2.2.2.2.2.2.2.2.2.2.2 1 (by omega)
      refine dOk (R' := xup R' 15 1 (w4 (s 87 + z.1))) (H := H) (W := W) (g := g0) hsp (nerr i3) (fun j hj => by rw [u1_ne (by omega), i1 j (by omega)]) ?_ (fun q j h h' => by rw [xup_nn (by omega), a3 q j (by omega) (by omega), kt q j h']) (w.pr (fun j hj => by rw [u1_ne (by omega), i1 j (by omega)]) (fun i hi => by rw [u1_ne (by omega), u1_ne (by omega)]; exact i2 i hi)) (r1.pr w (fun j hj => by rw [u1_ne (by omega), i1 j (by omega)]) (fun q j h1 h2 h3 h4 => by rw [xup_nn (by omega), a3 q j h3 h4]) (fun i hi => ?_) (fun i hi => ?_))
      · unfold f_X0_printSheet
        rw [z0] at a1
        rw [h30, h31, hv, Option.bind_some, hv1, hv2, if_pos (by rfl), oaf9 w r1, Option.bind_some, if_pos (decide_eq_true hf), a1, xlet_eq, show 2 + 13 = 15 from rfl, e15]
      · rw [xup_nn (by omega), xup_nn (by omega), u1_ne (by omega), u1_ne (by omega)]
        exact (a2.2.2.2 i hi).1
      · by_cases hi1 : i = 1
        · subst hi1; rw [xup_eq, u1_eq]
        · rw [xup_nn (by omega), a3 15 i (by omega) (by omega), u1_ne (by omega), i1 _ (by omega)]
          exact r1.2.2.2.2.2.2.2.2.2.2.2.2.2 i hi
    · rw [if_neg hf] at hsp
      refine dErr2 (v := -2) w r kt hsp ?_
      unfold f_X0_printSheet
      rw [h30, h31, hv, Option.bind_some, hv1, hv2, if_pos (by rfl), oaf9 w r1, Option.bind_some, decide_eq_false hf, if_neg (by decide)]
theorem w_all {v : Int} : wSpec (f_X10_printAll 323 v) (spAll v) := by
  intro R H W g0 w
  obtain ⟨R1, b1, b2, b3⟩ := try10 (i := v) w
  have hr : R1 324 = R 324 := funext fun j => b2 324 j (by omega) (by omega)
  have hsp := spAll_eq (v := v) w.2.2.1 w.2.2.2.1
  have hA := area_le w.1 w.2.1
  have k5 := w.2.2.2.2.1
  obtain ⟨vb, hv, hv1, hv2⟩ : ∃ x : Bool × xN, f_X10_layBy 323 v R = some x ∧ x.1 = (gbk H W v).isSome ∧ x.2 = R1 := ⟨_, b1, rfl, rfl⟩
  cases hg : gbk H W v with
  | none =>
    rw [hg] at hsp hv1
    refine wErr (v := -1) hsp err1 ?_ b2
    unfold f_X10_printAll
    rw [hv, Option.bind_some, hv1, hv2, if_neg (by decide)]
  | some g =>
    rw [hg] at hsp hv1
    dsimp only at hsp
    have l1 := b3 g hg
    have hw := gbk_w w.1 w.2.1 hg
    have hd1 : 1 ≤ H * W := by
      have h1 := hw.dep
      have h2 := (book_iff hw).mpr (gbk_some hg).2.2.2
      omega
    by_cases hf : R 324 2 = 0 ∧ R 324 8 = 0 ∧ R 324 9 = 0
    · rw [if_pos hf] at hsp
      obtain ⟨i1, i2, i3, i4⟩ := prA_inv (s0 := R 324) (W := W) (t := g.2.2.2) (fun p hp => by
        by_cases h : p < 2 * (H * W)
        · exact kS_lt2 hw h
        · unfold kS
          have h2 : sdN (g.2.2.2 (p / 2)) p < 2 := sdN_lt
          have h3 : cel W (g.2.2.2 (p / 2)) < 16 := by
            unfold cel
            rcases w.2.1 with e | e | e <;> rw [e] <;> omega
          omega) (2 * (H * W)) 0 0 (R 324) (by omega) w.2.2.2.2.2.2.2.2.2.2.2.2.2.2.2.2
      refine wOk hsp (nerr i3) b2 (fun Rb a1 a2 a3 => ?_)
      have lb : LM Rb W (H * W) g.2.2.2 := l1.fr (by rw [a3 324 1 (by omega) (by omega)]) (a3 323 9 (by omega) (by omega)) (fun q j h1 h2 => a3 q j (by omega) (by omega))
      obtain ⟨R', p1, p2, p3⟩ := pa10_lp (s0 := R 324) w.2.2.2.2.2.2.2.1 6000 (2 * (H * W)) 0 0 (R 324) Rb (by omega) (by omega) (by omega) (by omega) (fun j _ => by rw [a2]) rfl (Or.inl ⟨rfl, rfl, by rw [a2]⟩) lb (by omega)
      refine ⟨R', ?_, p2, p3⟩
      unfold f_X10_printAll
      rw [z0] at p1
      rw [hv, Option.bind_some, hv1, hv2, if_pos (by rfl), show 323 + 1 = 324 from rfl, hr, if_neg (show ¬ 0 < R 324 2 by omega), ish10, Option.bind_some, hr, decide_eq_true hf.2, if_neg (show ¬ (!true) = true by decide), a1, Option.bind_some, p1]
    · rw [if_neg hf] at hsp
      refine wErr (v := -2) hsp err2 ?_ b2
      unfold f_X10_printAll
      rw [hv, Option.bind_some, hv1, hv2, if_pos (by rfl), show 323 + 1 = 324 from rfl, hr]
      by_cases h2 : 0 < R 324 2
      · rw [if_pos h2]
      · rw [if_neg h2, ish10, Option.bind_some, hr, decide_eq_false (fun h => hf ⟨by omega, h.1, h.2⟩), if_pos (show (!false) = true from rfl)]
theorem o_all {v : Int} : opM Inv (f_X9_printAll 0 v) (f_X10_printAll 323 v) := desk_row d_all w_all (fun _ => rfl)
