/-! The program text obeyed: both. -/
/-- the class's reader at the start -/
theorem st9 {R : xN} {N : Nat} (hN : N ≤ 120) (hT : ∀ j : Nat, j < N → 1 ≤ R 319 j ∧ R 319 j ≤ 255) : ∃ R', f_X6_start 320 319 120 (N : Int) R = some R' ∧ CT R' (fun j => R 319 j) N (tS (fun j => R 319 j) N 0) (tE (fun j => R 319 j) N 0) ∧ ∀ q j : Nat, q ≠ 320 → q ≠ 321 → R' q j = R q j := by
  have e1 : (if 0 < (if (if 120 < ((120 : Nat) : Int) then 120 else ((120 : Nat) : Int)) < (N : Int) then (if 120 < ((120 : Nat) : Int) then 120 else ((120 : Nat) : Int)) else (N : Int)) then (if (if 120 < ((120 : Nat) : Int) then 120 else ((120 : Nat) : Int)) < (N : Int) then (if 120 < ((120 : Nat) : Int) then 120 else ((120 : Nat) : Int)) else (N : Int)) else 0) = (N : Int) := by
    rw [if_neg (show ¬ (120 : Int) < ((120 : Nat) : Int) by decide), if_neg (show ¬ ((120 : Nat) : Int) < (N : Int) by omega)]
    split <;> omega
  have hX : CX (xup (xcpy (xup R 320 1 (N : Int)) 319 321 0 0 N) 320 3 0) (fun j => R 319 j) N := by
    refine ⟨?_, hN, fun j hj => ⟨?_, hT j hj⟩⟩
    · rw [xup_nn (by omega), xcpy_get, if_neg (by omega), xup_eq]
    · rw [xup_nn (by omega), xcpy_get, if_pos rfl, if_pos hj, xup_nn (by omega)]
  obtain ⟨R', a1, a2, a3⟩ := adv9 hX (Nat.zero_le N) xup_eq
  refine ⟨R', ?_, a2, fun q j g1 g2 => ?_⟩
  · unfold f_X6_start
    rw [if_pos (by decide), e1, xlet_eq, xup_eq, if_pos (by omega), tnc, show 320 + 1 = 321 from rfl, xlet_eq, xlet_eq, a1, Option.bind_some]
  · rw [a3 q j (by omega), xup_nn (by omega), xcpy_get, if_neg g2, xup_nn (by omega)]
theorem cp2_lp : ∀ (c n i : Nat) (R : xN), c < n → i + c = 464 → ∃ R', (∀ X : Int → xN → Option (Int × xN), lp_X10_run_2 323 n (i : Int) R X = X 464 R') ∧ (∀ j, i ≤ j → j < 464 → R' 326 j = R 324 j) ∧ ∀ q j : Nat, q ≠ 326 → R' q j = R q j := by
  intro c
  induction c with
  | zero =>
    intro n i R h1 h2
    obtain ⟨n, rfl⟩ : ∃ n', n = n' + 1 := ⟨n - 1, by omega⟩
    refine ⟨R, fun X => ?_, fun j g1 g2 => by omega, fun q j _ => rfl⟩
    rw [lp_X10_run_2, if_pos (by omega), show (i : Int) = 464 by omega]
  | succ c ih =>
    intro n i R h1 h2
    obtain ⟨n, rfl⟩ : ∃ n', n = n' + 1 := ⟨n - 1, by omega⟩
    have e5 : Qe (w4 ((i : Int) + 1)) ((i + 1 : Nat) : Int) := by unfold Qe; rw [w4_of (by omega)]; omega
    have gi : (0 : Int) ≤ (i : Int) ∧ (i : Int) < 464 := by omega
    obtain ⟨R', b1, b2, b3⟩ := ih n (i + 1) (xup R 326 i (R 324 i)) (by omega) (by omega)
    have b4 : R' 326 i = R 324 i := by
      have hp : ∀ (c n k : Nat) (R R' : xN), (∀ X : Int → xN → Option (Int × xN), lp_X10_run_2 323 n (k : Int) R X = X 464 R') → c < n → k + c = 464 → ∀ j, j < k → R' 326 j = R 326 j := by
        intro c
        induction c with
        | zero =>
          intro n k R R' g1 g2 g3 j g4
          obtain ⟨n, rfl⟩ : ∃ n', n = n' + 1 := ⟨n - 1, by omega⟩
          have := g1 (fun z R => some (z, R))
          rw [lp_X10_run_2, if_pos (by omega)] at this
          have h2 := Option.some.inj this
          rw [← (Prod.mk.inj h2).2]
        | succ c ih2 =>
          intro n k R R' g1 g2 g3 j g4
          obtain ⟨n, rfl⟩ : ∃ n', n = n' + 1 := ⟨n - 1, by omega⟩
          have e6 : Qe (w4 ((k : Int) + 1)) ((k + 1 : Nat) : Int) := by unfold Qe; rw [w4_of (by omega)]; omega
          have gk : (0 : Int) ≤ (k : Int) ∧ (k : Int) < 464 := by omega
          have g5 : ∀ X : Int → xN → Option (Int × xN), lp_X10_run_2 323 n ((k + 1 : Nat) : Int) (xup R 326 k (R 324 k)) X = X 464 R' := fun X => by
            rw [← g1 X, lp_X10_run_2, if_neg (by omega), if_pos gk, if_pos gk, tnc, show 323 + 3 = 326 from rfl, show 323 + 1 = 324 from rfl, xlet_eq, xlet_eq, e6.eq]
          rw [ih2 n (k + 1) _ R' g5 (by omega) (by omega) j (by omega), xup_nn (by omega)]
      rw [hp c n (i + 1) _ R' b1 (by omega) (by omega) i (by omega), xup_eq]
    refine ⟨R', fun X => ?_, fun j g1 g2 => ?_, fun q j hq => by rw [b3 q j hq, xup_nn (by omega)]⟩
    · rw [lp_X10_run_2, if_neg (by omega), if_pos gi, if_pos gi, tnc, show 323 + 3 = 326 from rfl, show 323 + 1 = 324 from rfl, xlet_eq, xlet_eq, e5.eq]
      exact b1 X
    · by_cases hj : j = i
      · subst hj; exact b4
      · rw [b2 j (by omega) g2, xup_nn (by omega)]
theorem cp51_lp : ∀ (c n i : Nat) (R : xN), c < n → i + c = 464 → ∃ R', (∀ X : Int → xN → Option (Int × xN), lp_X10_run_51 323 n (i : Int) R X = X 464 R') ∧ (∀ j, i ≤ j → j < 464 → R' 324 j = R 326 j) ∧ ∀ q j : Nat, ¬ (q = 324 ∧ i ≤ j) → R' q j = R q j := by
  intro c
  induction c with
  | zero =>
    intro n i R h1 h2
    obtain ⟨n, rfl⟩ : ∃ n', n = n' + 1 := ⟨n - 1, by omega⟩
    refine ⟨R, fun X => ?_, fun j g1 g2 => by omega, fun q j _ => rfl⟩
    rw [lp_X10_run_51, if_pos (by omega), show (i : Int) = 464 by omega]
  | succ c ih =>
    intro n i R h1 h2
    obtain ⟨n, rfl⟩ : ∃ n', n = n' + 1 := ⟨n - 1, by omega⟩
    have e5 : Qe (w4 ((i : Int) + 1)) ((i + 1 : Nat) : Int) := by unfold Qe; rw [w4_of (by omega)]; omega
    have gi : (0 : Int) ≤ (i : Int) ∧ (i : Int) < 464 := by omega
    obtain ⟨R', b1, b2, b3⟩ := ih n (i + 1) (xup R 324 i (R 326 i)) (by omega) (by omega)
    refine ⟨R', fun X => ?_, fun j g1 g2 => ?_, fun q j hq => by rw [b3 q j (by omega), xup_nn (by omega)]⟩
    · rw [lp_X10_run_51, if_neg (by omega), if_pos gi, if_pos gi, tnc, show 323 + 3 = 326 from rfl, show 323 + 1 = 324 from rfl, xlet_eq, xlet_eq, e5.eq]
      exact b1 X
    · by_cases hj : j = i
      · subst hj; rw [b3 324 j (by omega), xup_eq]
      · rw [b2 j (by omega) g2, xup_nn (by omega)]
theorem cp132_lp {p1 : Int} : ∀ (c n i : Nat) (R : xN), c < n → i + c = 464 → ∃ R', (∀ X : Int → xN → Option (Int × xN), lp_X10_run_132 323 p1 n (i : Int) R X = X 464 R') ∧ (∀ j, i ≤ j → j < 464 → R' 324 j = R 326 j) ∧ ∀ q j : Nat, ¬ (q = 324 ∧ i ≤ j) → R' q j = R q j := by
  intro c
  induction c with
  | zero =>
    intro n i R h1 h2
    obtain ⟨n, rfl⟩ : ∃ n', n = n' + 1 := ⟨n - 1, by omega⟩
    refine ⟨R, fun X => ?_, fun j g1 g2 => by omega, fun q j _ => rfl⟩
    rw [lp_X10_run_132, if_pos (by omega), show (i : Int) = 464 by omega]
  | succ c ih =>
    intro n i R h1 h2
    obtain ⟨n, rfl⟩ : ∃ n', n = n' + 1 := ⟨n - 1, by omega⟩
    have e5 : Qe (w4 ((i : Int) + 1)) ((i + 1 : Nat) : Int) := by unfold Qe; rw [w4_of (by omega)]; omega
    have gi : (0 : Int) ≤ (i : Int) ∧ (i : Int) < 464 := by omega
    obtain ⟨R', b1, b2, b3⟩ := ih n (i + 1) (xup R 324 i (R 326 i)) (by omega) (by omega)
    refine ⟨R', fun X => ?_, fun j g1 g2 => ?_, fun q j hq => by rw [b3 q j (by omega), xup_nn (by omega)]⟩
    · rw [lp_X10_run_132, if_neg (by omega), if_pos gi, if_pos gi, tnc, show 323 + 3 = 326 from rfl, show 323 + 1 = 324 from rfl, xlet_eq, xlet_eq, e5.eq]
      exact b1 X
    · by_cases hj : j = i
      · subst hj; rw [b3 324 j (by omega), xup_eq]
      · rw [b2 j (by omega) g2, xup_nn (by omega)]
theorem sw87_lp {p1 : Int} : ∀ (c n i : Nat) (R : xN), c < n → i + c = 464 → ∃ R', (∀ X : Int → xN → Option (Int × xN), lp_X10_run_87 323 p1 n (i : Int) R X = X 464 R') ∧ (∀ j, i ≤ j → j < 464 → R' 324 j = R 326 j ∧ R' 326 j = R 324 j) ∧ ∀ q j : Nat, ¬ ((q = 324 ∨ q = 326) ∧ i ≤ j) → R' q j = R q j := by
  intro c
  induction c with
  | zero =>
    intro n i R h1 h2
    obtain ⟨n, rfl⟩ : ∃ n', n = n' + 1 := ⟨n - 1, by omega⟩
    refine ⟨R, fun X => ?_, fun j g1 g2 => by omega, fun q j _ => rfl⟩
    rw [lp_X10_run_87, if_pos (by omega), show (i : Int) = 464 by omega]
  | succ c ih =>
    intro n i R h1 h2
    obtain ⟨n, rfl⟩ : ∃ n', n = n' + 1 := ⟨n - 1, by omega⟩
    have e5 : Qe (w4 ((i : Int) + 1)) ((i + 1 : Nat) : Int) := by unfold Qe; rw [w4_of (by omega)]; omega
    have gi : (0 : Int) ≤ (i : Int) ∧ (i : Int) < 464 := by omega
    obtain ⟨R', b1, b2, b3⟩ := ih n (i + 1) (xup (xup R 324 i (R 326 i)) 326 i (R 324 i)) (by omega) (by omega)
    refine ⟨R', fun X => ?_, fun j g1 g2 => ?_, fun q j hq => by rw [b3 q j (by omega), xup_nn (by omega), xup_nn (by omega)]⟩
    · rw [lp_X10_run_87, if_neg (by omega), if_pos gi, xlet_eq, if_pos gi, if_pos gi, xlet_eq, if_pos gi, xlet_eq, xlet_eq, tnc, show 323 + 3 = 326 from rfl, show 323 + 1 = 324 from rfl, e5.eq]
      exact b1 X
    · by_cases hj : j = i
      · subst hj
        rw [b3 324 j (by omega), b3 326 j (by omega), xup_nn (by omega), xup_eq, xup_eq]
        exact ⟨rfl, rfl⟩
      · rw [(b2 j (by omega) g2).1, (b2 j (by omega) g2).2, xup_nn (by omega), xup_nn (by omega), xup_nn (by omega), xup_nn (by omega)]
        exact ⟨rfl, rfl⟩
/-- the model's run, as far as its first token -/
theorem pre10 {R : xN} {T : Nat → Int} {N : Nat} (hX : MX R T N) : ∃ Rp, (∀ Y : Option (Int × xN), (lp_X10_runAll_16 323 6000 0 Rp (fun z R => some (z, R))).bind (fun v9 => xlet (xup v9.2 323 6 0) (fun R10 => if R10 323 26 < 0 then lp_X10_run_87 323 v9.1 6000 0 R10 (fun z21 R22 => (f_X10_record 323 R22).bind (fun v23 => lp_X10_run_132 323 v9.1 6000 0 v23 (fun z29 R30 => xlet (xup R30 323 4 0) (fun R31 => some (v9.1, R31))))) else lp_X10_run_51 323 6000 0 R10 (fun z37 R38 => some ((w4 ((-1000) - (R38 323 26))), R38)))) = Y → f_X10_run 323 R = Y) ∧ MT Rp T N (tS T N 0) (tE T N 0) ∧ Rp 323 6 = 1 ∧ Rp 323 26 = -1 ∧ Rp 324 = R 324 ∧ (∀ j, j < 464 → Rp 326 j = R 324 j) ∧ ∀ q j : Nat, q ≠ 326 → ¬ (q = 323 ∧ (j = 6 ∨ (18 ≤ j ∧ j ≤ 26))) → Rp q j = R q j := by
  obtain ⟨R1, a1, a2, a3⟩ := cp2_lp 464 6000 0 R (by omega) (by omega)
  rw [z0] at a1
  obtain ⟨Rp, n1, n2, n3⟩ := next10 (R := xup (xup (xup R1 323 6 1) 323 18 0) 323 26 (-1)) (hX.k (by rw [xup_nn (by omega), xup_nn (by omega), xup_nn (by omega), a3 323 4 (by omega)]) (fun j => by rw [xup_nn (by omega), xup_nn (by omega), xup_nn (by omega), a3 327 j (by omega)])) (Nat.zero_le N) (by rw [xup_nn (by omega), xup_eq]; rfl)
  have fr : ∀ q j : Nat, ¬ (q = 323 ∧ (j = 6 ∨ (18 ≤ j ∧ j ≤ 26))) → Rp q j = R1 q j := fun q j hq => by rw [n3 q j (by omega), xup_nn (by omega), xup_nn (by omega), xup_nn (by omega)]
  refine ⟨Rp, fun Y hY => ?_, n2, ?_, ?_, ?_, fun j hj => ?_, fun q j g1 g2 => by rw [fr q j g2, a3 q j g1]⟩
  · unfold f_X10_run f_X10_runAll
    rw [a1, xlet_eq, xlet_eq, xlet_eq, n1, Option.bind_some]
    exact hY
  · rw [n3 323 6 (by omega), xup_nn (by omega), xup_nn (by omega), xup_eq]
  · rw [n3 323 26 (by omega), xup_eq]
  · exact funext fun j => by rw [fr 324 j (by omega), a3 324 j (by omega)]
  · rw [fr 326 j (by omega), a2 j (Nat.zero_le j) hj]
theorem o_run : opM Inv (f_X9_run 0) (f_X10_run 323) := by
  intro R hI
  obtain ⟨i1, i2, i3, i4, i5, i6⟩ := id hI
  have n0 := i2.1
  have n5 := i2.2.1
  obtain ⟨Rk, k1, k2, k3⟩ := hkeep i2 i1.fil
  obtain ⟨i, hi, he⟩ := i2.2.2.1 (R 45 1).toNat (by omega)
  rw [he, Int.toNat_natCast] at k2 k3
  have s1 : SR Rk 1 (R 324) := i1.out (fun q j h1 h2 => k3 q j (by omega))
  have sp1 : SR Rk (47 + 44 * i) (R 324) := i1.eq k2
  obtain ⟨N, hN⟩ := Int.eq_ofNat_of_zero_le i3.1
  have hN120 : N ≤ 120 := by have := i3.2.1; omega
  have hk05 : Rk 0 5 = (N : Int) := by rw [k3 0 5 (by omega), hN]
  have hk319 : ∀ j, Rk 319 j = R 319 j := fun j => k3 319 j (by omega)
  obtain ⟨Rs, t1, t2, t3⟩ := st9 (R := Rk) hN120 (fun j hj => by rw [hk319]; exact (i3.2.2.2 j (by omega)).2)
  rw [show (fun j => Rk 319 j) = fun j => R 319 j from funext hk319] at t2
  obtain ⟨T, hTd⟩ : ∃ T : Nat → Int, T = fun j => R 319 j := ⟨_, rfl⟩
  rw [← hTd] at t2
  have hMX : ∀ R0 : xN, R0 323 4 = R 323 4 → (∀ j, R0 327 j = R 327 j) → MX R0 T N := fun R0 g1 g2 => ⟨by rw [g1, i3.2.2.1, hN], hN120, fun j hj => by
    obtain ⟨a1, a2, a3⟩ := i3.2.2.2 j (by omega)
    rw [hTd, g2]
    exact ⟨a1, a2, a3⟩⟩
  have tk := (tok_ok (T := T) (N := N) (p := 0) (Nat.zero_le N)).1
  have ss : SR Rs 1 (R 324) := s1.out (fun q j h1 h2 => t3 q j (by omega) (by omega))
  -- the loop of both from the class's reader, at whatever memory the model stands
  have J : ∀ R0 : xN, R0 324 = R 324 → R0 323 4 = R 323 4 → (∀ j, R0 327 j = R 327 j) → ∃ Rp, (∀ Y : Option (Int × xN), (lp_X10_runAll_16 323 6000 0 Rp (fun z R => some (z, R))).bind (fun v9 => xlet (xup v9.2 323 6 0) (fun R10 => if R10 323 26 < 0 then lp_X10_run_87 323 v9.1 6000 0 R10 (fun z21 R22 => (f_X10_record 323 R22).bind (fun v23 => lp_X10_run_132 323 v9.1 6000 0 v23 (fun z29 R30 => xlet (xup R30 323 4 0) (fun R31 => some (v9.1, R31))))) else lp_X10_run_51 323 6000 0 R10 (fun z37 R38 => some ((w4 ((-1000) - (R38 323 26))), R38)))) = Y → f_X10_run 323 R0 = Y) ∧ (∀ j, j < 464 → Rp 326 j = R 324 j) ∧ (∀ q j : Nat, q ≠ 326 → ¬ (q = 323 ∧ (j = 6 ∨ (18 ≤ j ∧ j ≤ 26))) → Rp q j = R0 q j) ∧ ∃ Rc' Rm' : xN, kL Rs Rc' ∧ kN Rp Rm' ∧ MJ T N N 0 Rs Rp Rc' Rm' := fun R0 g1 g2 g3 => by
    obtain ⟨Rp, p1, p2, p3, p4, p5, p6, p7⟩ := pre10 (hMX R0 g2 g3)
    obtain ⟨Rc', Rm', m1, m2, m3⟩ := main_j N _ _ 0 Rs Rp (by omega) (Nat.zero_le _) t2 tk p2 (by rw [p5, g1]; exact ss) p3 p4
    exact ⟨Rp, p1, fun j hj => by rw [p6 j hj, g1], p7, Rc', Rm', m1, m2, m3⟩
  have hC : ∀ Y : Option (Int × xN), lp_X9_run_28 0 6000 0 Rs (fun z22 R23 => xlet (xup R23 0 5 0) (fun R24 => (f_X1_settle 45 z22 R24).bind (fun v25 => some (v25.1, v25.2)))) = Y → f_X9_run 0 R = Y := fun Y hY => by
    unfold f_X9_run
    rw [show 0 + 45 = 45 from rfl, show 0 + 1 = 1 from rfl, show 0 + 320 = 320 from rfl, show 0 + 319 = 319 from rfl, k1, Option.bind_some, hk05, t1, Option.bind_some]
    exact hY
  -- the class's run
  obtain ⟨Rp0, -, -, -, Rc', Rm0, q1, -, q3⟩ := J R rfl rfl (fun _ => rfl)
  have f1 : ∀ q j : Nat, q ≠ 0 → ¬ (1 ≤ q ∧ q < 45) → ¬ (47 + 44 * i ≤ q ∧ q < 47 + 44 * i + 44) → ¬ (311 ≤ q ∧ q < 323) → Rc' q j = R q j := fun q j g1 g2 g3 g4 => by
    rw [q1 q j (by omega) g2 (by omega) (by omega) (by omega), t3 q j (by omega) (by omega), k3 q j (by omega)]
  have sp2 : SR Rc' (47 + 44 * i) (R 324) := sp1.out (fun q j h1 h2 => by
    rw [q1 q j (by omega) (by omega) (by omega) (by omega) (by omega), t3 q j (by omega) (by omega)])
  rcases q3 with ⟨cnt, c1, c2, -, c4, -⟩ | ⟨fl, zz, c1, c2, -, -⟩
  · -- it went well
    have c2' := c2 6000 (by omega)
    rw [z0] at c2'
    have sn0 : ∃ s', SR (xup Rc' 0 5 0) 1 s' := ⟨_, c4.out (fun q j h1 h2 => xup_nn (by omega))⟩
    have P : ∀ s', SR (xup Rc' 0 5 0) 1 s' → _ := fun s' hs' => push_inv (R := R) (Re := xup Rc' 0 5 0) (s' := s') (cnt := (cnt : Int)) hI (by omega) hi he (fun q j g1 g2 g3 g4 => by rw [xup_nn (by omega), f1 q j g1 g2 g3 g4]) (sp2.out (fun q j h1 h2 => xup_nn (by omega))) hs' xup_eq
    obtain ⟨s0, hs0⟩ := sn0
    obtain ⟨R1, u1', u2, -⟩ := P s0 hs0
    have hR1 : ∀ q j : Nat, 323 ≤ q → R1 q j = R q j := fun q j hq => by rw [u2 q j (by omega) (by omega), xup_nn (by omega), f1 q j (by omega) (by omega) (by omega) (by omega)]
    obtain ⟨Rp, w1, w2, w3, Rc2, Rm', v1, v2, v3⟩ := J R1 (funext fun j => hR1 324 j (by omega)) (hR1 323 4 (by omega)) (fun j => hR1 327 j (by omega))
    rcases v3 with ⟨cnt2, d1, d2, d3, d4, d5⟩ | ⟨fl, z, d1, d2, -, -⟩
    · have d2' := d2 6000 (by omega)
      rw [z0] at d2'
      have hsame := (d2' (fun z R => some (z, R))).symm.trans (c2' (fun z R => some (z, R)))
      have hs2 := Prod.mk.inj (Option.some.inj hsame)
      have hcc : cnt2 = cnt := by have := hs2.1; omega
      have hrc : Rc2 = Rc' := hs2.2
      subst hcc
      subst hrc
      obtain ⟨R1', u3, u4, u5⟩ := P (Rm' 324) (d4.out (fun q j h1 h2 => xup_nn (by omega)))
      have hR11 : R1' = R1 := by
        have := u3.symm.trans u1'
        exact (Prod.mk.inj (Option.some.inj this)).2
      subst hR11
      -- the model's end
      have m26 : xup Rm' 323 6 0 323 26 = -1 := by rw [xup_nn (by omega)]; exact d5
      obtain ⟨Rx, x1, x2, x3⟩ := sw87_lp (p1 := (cnt2 : Int)) 464 6000 0 (xup Rm' 323 6 0) (by omega) (by omega)
      rw [z0] at x1
      have hx : ∀ q j : Nat, q ≠ 324 → q ≠ 326 → ¬ (q = 323 ∧ j = 6) → Rx q j = Rm' q j := fun q j g1 g2 g3 => by rw [x3 q j (by omega), xup_nn (by omega)]
      obtain ⟨Ry, y1, y2, y3⟩ := u5 Rx (fun q j hq => by
        rw [hx q j (by omega) (by omega) (by omega), v2 q j (by omega) (by omega) (by omega) (by omega), w3 q j (by omega) (by omega)]) (by rw [x3 323 6 (by omega), xup_eq]) (by
        rw [hx 323 3 (by omega) (by omega) (by omega), v2 323 3 (by omega) (by omega) (by omega) (by omega), w3 323 3 (by omega) (by omega), hR1 323 3 (by omega)]) (fun j hj => by
        rw [(x2 j (Nat.zero_le j) hj).1, xup_nn (by omega), v2 326 j (by omega) (by omega) (by omega) (by omega), w2 j hj]) (fun j => by
        rw [hx 325 j (by omega) (by omega) (by omega), v2 325 j (by omega) (by omega) (by omega) (by omega), w3 325 j (by omega) (by omega), hR1 325 j (by omega)])
      obtain ⟨Rz, z1, z2, z3⟩ := cp132_lp (p1 := (cnt2 : Int)) 464 6000 0 Ry (by omega) (by omega)
      rw [z0] at z1
      have d3' := d3 6000 (by omega)
      rw [z0] at d3'
      refine ⟨(cnt2 : Int), R1', xup Rz 323 4 0, hC _ ?_, w1 _ ?_, y3 _ (fun q j g1 g2 => by rw [xup_nn (by omega), z3 q j (by omega)]) xup_eq (fun j hj => ?_)⟩
      · rw [c2', xlet_eq, u1', Option.bind_some]
      · rw [d3', Option.bind_some, xlet_eq]
        show (if xup Rm' 323 6 0 323 26 < 0 then _ else _) = _
        rw [m26, if_pos (by decide)]
        show lp_X10_run_87 323 (cnt2 : Int) 6000 0 (xup Rm' 323 6 0) _ = _
        rw [x1, y1, Option.bind_some, z1, xlet_eq]
      · rw [xup_nn (by omega), z2 j (Nat.zero_le j) hj, y2 326 j (by omega) (by omega), (x2 j (Nat.zero_le j) hj).2, xup_nn (by omega)]
    · exfalso
      have d2' := d2 6000 (by omega)
      rw [z0] at d2'
      have g1 := (c2' (fun _ _ => none)).symm.trans (d2' (fun _ _ => none))
      have g2 := (c2' (fun z R => some (z, R))).symm.trans (d2' (fun z R => some (z, R)))
      have g3 : (some ((cnt : Int), Rc') : Option (Int × xN)) = none := g2.trans g1.symm
      cases g3
  · -- it failed
    have c2' := c2 6000 (by omega)
    rw [z0] at c2'
    have hhc : iHist Rc' := i2.of (f1 45 1 (by omega) (by omega) (by omega) (by omega)) (fun k _ => f1 46 k (by omega) (by omega) (by omega) (by omega))
    have h45 : Rc' 45 1 = R 45 1 := f1 45 1 (by omega) (by omega) (by omega) (by omega)
    have h46 : (Rc' 46 (Rc' 45 1).toNat).toNat = 47 + 44 * i := by rw [h45, f1 46 _ (by omega) (by omega) (by omega) (by omega), he, Int.toNat_natCast]
    obtain ⟨R1, b1, b2, b3⟩ := hback hhc (by rw [h46]; exact sp2.fil)
    rw [h46] at b2
    have sb : SR R1 1 (R 324) := sp2.eq b2
    have hR1 : ∀ q j : Nat, 323 ≤ q → R1 q j = R q j := fun q j hq => by rw [b3 q j (by omega), f1 q j (by omega) (by omega) (by omega) (by omega)]
    obtain ⟨Rp, w1, w2, w3, Rc2, Rm', v1, v2, v3⟩ := J R1 (funext fun j => hR1 324 j (by omega)) (hR1 323 4 (by omega)) (fun j => hR1 327 j (by omega))
    have hres : ∀ X : Int → xN → Option (Int × xN), lp_X9_run_28 0 6000 0 Rs X = some ((w4 ((-1000) - (fl : Int))), R1) := fun X => by
      rw [c2', b1, Option.bind_some]
    rcases v3 with ⟨cnt2, d1, d2, -, -, -⟩ | ⟨fl2, z, d1, d2, d3, d4⟩
    · exfalso
      have d2' := d2 6000 (by omega)
      rw [z0] at d2'
      have g1 := (d2' (fun _ _ => none)).symm.trans (hres (fun _ _ => none))
      cases g1
    · have d2' := d2 6000 (by omega)
      rw [z0] at d2'
      have g1 := (hres (fun _ _ => none)).symm.trans (d2' (fun _ _ => none))
      have hfl : fl2 = fl := by
        cases hb : f_X1_bringBack 45 1 Rc2 with
        | none =>
          rw [hb] at g1
          have g2 : (some ((w4 ((-1000) - (fl : Int))), R1) : Option (Int × xN)) = none := g1
          cases g2
        | some v =>
          rw [hb, Option.bind_some] at g1
          have g2 := (Prod.mk.inj (Option.some.inj g1)).1
          rw [w4_of (by omega), w4_of (by omega)] at g2
          omega
      subst hfl
      obtain ⟨Rx, x1, x2, x3⟩ := cp51_lp 464 6000 0 (xup Rm' 323 6 0) (by omega) (by omega)
      rw [z0] at x1
      have m26 : xup Rm' 323 6 0 323 26 = (fl2 : Int) := by rw [xup_nn (by omega)]; exact d4
      have hx26 : Rx 323 26 = (fl2 : Int) := by rw [x3 323 26 (by omega)]; exact m26
      have hx : ∀ q j : Nat, q ≠ 324 → ¬ (q = 323 ∧ j = 6) → Rx q j = Rm' q j := fun q j g1 g3 => by rw [x3 q j (by omega), xup_nn (by omega)]
      have hxR : ∀ q j : Nat, ¬ (q = 323 ∧ (j = 6 ∨ (7 ≤ j ∧ j ≤ 9) ∨ (18 ≤ j ∧ j ≤ 26))) → q ≠ 324 → q ≠ 326 → ¬ (328 ≤ q ∧ q < 337) → Rx q j = R1 q j := fun q j g1 g2 g3 g4 => by
        rw [hx q j g2 (by omega), v2 q j (by omega) (by omega) g4 g2, w3 q j g3 (by omega)]
      have lo : ∀ q j : Nat, 1 ≤ q → q < 323 → Rx q j = R1 q j := fun q j g1 g2 => hxR q j (by omega) (by omega) (by omega) (by omega)
      have d3' := d3 6000 (by omega)
      rw [z0] at d3'
      refine ⟨_, R1, Rx, hC _ (hres _), w1 _ ?_, ?_, ?_, ?_, ?_, ?_, fun k hk => ?_⟩
      · rw [d3', Option.bind_some, xlet_eq]
        show (if xup Rm' 323 6 0 323 26 < 0 then _ else lp_X10_run_51 323 6000 0 (xup Rm' 323 6 0) _) = _
        rw [m26, if_neg (by omega), x1, hx26]
      · refine (sb.sg (s' := Rx 324) (fun j hj => ?_)).out (fun q j h1 h2 => lo q j (by omega) (by omega))
        rw [x2 j (Nat.zero_le j) hj, xup_nn (by omega), v2 326 j (by omega) (by omega) (by omega) (by omega), w2 j hj]
      · exact i2.of (by rw [lo 45 1 (by omega) (by omega), b3 45 1 (by omega), h45]) (fun k _ => by rw [lo 46 k (by omega) (by omega), b3 46 k (by omega), f1 46 k (by omega) (by omega) (by omega) (by omega)])
      · have h05 : Rx 0 5 = R 0 5 := by
          rw [hxR 0 5 (by omega) (by omega) (by omega) (by omega), b3 0 5 (by omega), q1 0 5 (by omega) (by omega) (by omega) (by omega) (by omega), t3 0 5 (by omega) (by omega), k3 0 5 (by omega)]
        refine i3.of h05 (by rw [hxR 323 4 (by omega) (by omega) (by omega) (by omega), hR1 323 4 (by omega)]) (fun j => ?_) (fun j => by rw [hxR 327 j (by omega) (by omega) (by omega) (by omega), hR1 327 j (by omega)])
        rw [lo 319 j (by omega) (by omega), b3 319 j (by omega), q1 319 j (by omega) (by omega) (by omega) (by omega) (by omega), t3 319 j (by omega) (by omega), hk319]
      · rw [x3 323 6 (by omega), xup_eq]
      · rw [hxR 323 3 (by omega) (by omega) (by omega) (by omega), hR1 323 3 (by omega), lo 45 1 (by omega) (by omega), b3 45 1 (by omega), h45, i5]
      · rw [lo 45 1 (by omega) (by omega), b3 45 1 (by omega), h45] at hk
        have e46 : Rx 46 k = R 46 k := by rw [lo 46 k (by omega) (by omega), b3 46 k (by omega), f1 46 k (by omega) (by omega) (by omega) (by omega)]
        rw [e46]
        obtain ⟨ik, hik, hek⟩ := i2.2.2.1 k (by omega)
        have hne : ik ≠ i := fun h => by
          have := i2.2.2.2 k (R 45 1).toNat (by omega) (by omega) (by rw [hek, he, h])
          omega
        have hold := i6 k hk
        rw [hek, Int.toNat_natCast] at hold ⊢
        rw [show (fun j => Rx 325 (464 * k + j)) = fun j => R 325 (464 * k + j) from funext fun j => by rw [hxR 325 _ (by omega) (by omega) (by omega) (by omega), hR1 325 _ (by omega)]]
        exact hold.out (fun q j h1 h2 => by rw [lo q j (by omega) (by omega), b3 q j (by omega), f1 q j (by omega) (by omega) (by omega) (by omega)])
