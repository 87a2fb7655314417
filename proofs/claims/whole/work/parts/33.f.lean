def lp_X10_pageBy_4 (a : Nat) (p1 : Int) (R : xN) : Nat → Int → Int → (Int → Int → Option (Int)) → Option (Int)
  | 0, _, _, _ => none
  | n + 1, y2, y3, X =>
    if (R (a + 1) 37) ≤ y3 then
    X y2 y3
    else
    if 0 ≤ (w4 (38 + (w4 (4 * y3)))) ∧ (w4 (38 + (w4 (4 * y3)))) < 464 then
    if (R (a + 1) ((w4 (38 + (w4 (4 * y3))))).toNat) = p1 then
    if 0 ≤ y3 ∧ y3 < 12 then
    if (R (a + 16) (y3).toNat) < 0 then
    xlet (w4 (y3 + 1)) (fun x6 =>
    lp_X10_pageBy_4 a p1 R n y2 x6 X)
    else
    if 0 ≤ y3 ∧ y3 < 12 then
    if (R (a + 1) 11) ≠ 0 then
    if 0 ≤ (w4 (Int.tdiv (R (a + 16) (y3).toNat) (R (a + 1) 11))) ∧ (w4 (Int.tdiv (R (a + 16) (y3).toNat) (R (a + 1) 11))) < 32 then
    xlet (R (a + 15) ((w4 (Int.tdiv (R (a + 16) (y3).toNat) (R (a + 1) 11)))).toNat) (fun x10 =>
    if y2 < 0 then
    xlet (w4 (y3 + 1)) (fun x12 =>
    lp_X10_pageBy_4 a p1 R n x10 x12 X)
    else
    xlet (if y2 ≤ x10 then y2 else x10) (fun t13 =>
    xlet (w4 (y3 + 1)) (fun x14 =>
    lp_X10_pageBy_4 a p1 R n t13 x14 X)))
    else none
    else none
    else none
    else none
    else
    xlet (w4 (y3 + 1)) (fun x15 =>
    lp_X10_pageBy_4 a p1 R n y2 x15 X)
    else none
def f_X10_pageBy (a : Nat) (i0 : Int) (R : xN) : Option (Int) :=
  lp_X10_pageBy_4 a i0 R 6000 (-1) 0 (fun z16 z17 =>
  some z16)
set_option maxRecDepth 20000 in
set_option maxHeartbeats 4000000 in
theorem lc_X10_pageBy_4 {l : Launch} {g : xG} {d : Nat} {A : xA} {a : Nat} (h_a : sh 10 A a) (p1 : Int) (R : xN) {X : Int → Int → Option (Int)} (hX : ∀ (y2 : Int) (y3 : Int), Ev l g (d) mX10_pageBy 83 [xU, xU, xI y2, xU, xU] [] A R (fun v : Int => some (xI v)) (fun _ => R) (X y2 y3)) (n : Nat) (y2 : Int) (y3 : Int) : Ev l g (d) mX10_pageBy 4 [xR a, xI p1, xI y2, xI y3, xU] [] A R (fun v : Int => some (xI v)) (fun _ => R) (lp_X10_pageBy_4 a p1 R n y2 y3 X) := by
  induction n generalizing y2 y3 with
  | zero => exact ev_none
  | succ n ih =>
    rw [lp_X10_pageBy_4]
    refine ev_st (pc' := 12) (L' := [xR a, xI p1, xI y2, xI y3, xU]) (st' := [xI (R (a + 1) 37), xI y3]) (fun _ _ _ k => e_iload_n dX10_pageBy_4 rfl (i := 3) (x := y3) rfl (e_aload_n dX10_pageBy_5 rfl (i := 0) (x := a) rfl (e_getr dX10_pageBy_6 flX10_7 (kd10_0 h_a) rfl (rf10_0_0 h_a) (e_bipush dX10_pageBy_9 rfl (k4 rfl) (e_iald dX10_pageBy_11 (kd10_1 h_a) (by decide) (by decide) k))))) ?_
    refine ev_br2 (P := (R (a + 1) 37) ≤ y3) (pct := 83) (pcf := 15) (st' := []) (fun _ _ _ kt kf => e_cge dX10_pageBy_12 (tgt := 83) rfl kt kf) (fun h1 => ?_) (fun h1 => ?_)
    · refine ev_st (pc' := 83) (L' := [xU, xU, xI y2, xU, xU]) (st' := []) (fun _ _ _ k => e_fg [0, 1, 3] k) ?_
      exact hX y2 y3
    · refine ev_st (pc' := 25) (L' := [xR a, xI p1, xI y2, xI y3, xU]) (st' := [xI (w4 (38 + (w4 (4 * y3)))), xR (a + 1)]) (fun _ _ _ k => e_aload_n dX10_pageBy_15 rfl (i := 0) (x := a) rfl (e_getr dX10_pageBy_16 flX10_7 (kd10_0 h_a) rfl (rf10_0_0 h_a) (e_bipush dX10_pageBy_19 rfl (k4 rfl) (e_iconst dX10_pageBy_21 (k4 rfl) (e_iload_n dX10_pageBy_22 rfl (i := 3) (x := y3) rfl (e_imul dX10_pageBy_23 (e_iadd dX10_pageBy_24 k))))))) ?_
      refine ev_chk (fun h2 => ?_)
      refine ev_st (pc' := 26) (L' := [xR a, xI p1, xI y2, xI y3, xU]) (st' := [xI (R (a + 1) ((w4 (38 + (w4 (4 * y3))))).toNat)]) (fun _ _ _ k => e_iald dX10_pageBy_25 (kd10_1 h_a) h2.1 h2.2 k) ?_
      refine ev_st (pc' := 27) (L' := [xR a, xI p1, xI y2, xI y3, xU]) (st' := [xI p1, xI (R (a + 1) ((w4 (38 + (w4 (4 * y3))))).toNat)]) (fun _ _ _ k => e_iload_n dX10_pageBy_26 rfl (i := 1) (x := p1) rfl k) ?_
      refine ev_br2 (P := (R (a + 1) ((w4 (38 + (w4 (4 * y3))))).toNat) = p1) (pct := 30) (pcf := 77) (st' := []) (fun _ _ _ kt kf => e_cne dX10_pageBy_27 (tgt := 77) rfl kt kf) (fun h3 => ?_) (fun h3 => ?_)
      · refine ev_st (pc' := 35) (L' := [xR a, xI p1, xI y2, xI y3, xU]) (st' := [xI y3, xR (a + 16)]) (fun _ _ _ k => e_aload_n dX10_pageBy_30 rfl (i := 0) (x := a) rfl (e_getr dX10_pageBy_31 flX10_55 (kd10_0 h_a) rfl (rf10_0_30 h_a) (e_iload_n dX10_pageBy_34 rfl (i := 3) (x := y3) rfl k))) ?_
        refine ev_chk (fun h4 => ?_)
        refine ev_st (pc' := 36) (L' := [xR a, xI p1, xI y2, xI y3, xU]) (st' := [xI (R (a + 16) (y3).toNat)]) (fun _ _ _ k => e_iald dX10_pageBy_35 (kd10_16 h_a) h4.1 h4.2 k) ?_
        refine ev_br2 (P := (R (a + 16) (y3).toNat) < 0) (pct := 77) (pcf := 39) (st' := []) (fun _ _ _ kt kf => e_iflt dX10_pageBy_36 (tgt := 77) rfl kt kf) (fun h5 => ?_) (fun h5 => ?_)
        · refine ev_letx (fun x6 ex6 => ?_)
          refine ev_st (pc' := 80) (L' := [xR a, xI p1, xI y2, xI x6, xU]) (st' := []) (fun _ _ _ k => e_iinc dX10_pageBy_77 (i := 3) rfl (x := y3) rfl (y := x6) ex6 (L' := [xR a, xI p1, xI y2, xI x6, xU]) rfl k) ?_
          refine ev_st (pc' := 4) (L' := [xR a, xI p1, xI y2, xI x6, xU]) (st' := []) (fun _ _ _ k => e_goto dX10_pageBy_80 (tgt := 4) rfl k) ?_
          exact ih y2 x6
        · refine ev_st (pc' := 48) (L' := [xR a, xI p1, xI y2, xI y3, xU]) (st' := [xI y3, xR (a + 16), xR (a + 15)]) (fun _ _ _ k => e_aload_n dX10_pageBy_39 rfl (i := 0) (x := a) rfl (e_getr dX10_pageBy_40 flX10_52 (kd10_0 h_a) rfl (rf10_0_29 h_a) (e_aload_n dX10_pageBy_43 rfl (i := 0) (x := a) rfl (e_getr dX10_pageBy_44 flX10_55 (kd10_0 h_a) rfl (rf10_0_30 h_a) (e_iload_n dX10_pageBy_47 rfl (i := 3) (x := y3) rfl k))))) ?_
          refine ev_chk (fun h7 => ?_)
          refine ev_st (pc' := 49) (L' := [xR a, xI p1, xI y2, xI y3, xU]) (st' := [xI (R (a + 16) (y3).toNat), xR (a + 15)]) (fun _ _ _ k => e_iald dX10_pageBy_48 (kd10_16 h_a) h7.1 h7.2 k) ?_
          refine ev_st (pc' := 56) (L' := [xR a, xI p1, xI y2, xI y3, xU]) (st' := [xI (R (a + 1) 11), xI (R (a + 16) (y3).toNat), xR (a + 15)]) (fun _ _ _ k => e_aload_n dX10_pageBy_49 rfl (i := 0) (x := a) rfl (e_getr dX10_pageBy_50 flX10_7 (kd10_0 h_a) rfl (rf10_0_0 h_a) (e_bipush dX10_pageBy_53 rfl (k4 rfl) (e_iald dX10_pageBy_55 (kd10_1 h_a) (by decide) (by decide) k)))) ?_
          refine ev_chk (fun h8 => ?_)
          refine ev_st (pc' := 57) (L' := [xR a, xI p1, xI y2, xI y3, xU]) (st' := [xI (w4 (Int.tdiv (R (a + 16) (y3).toNat) (R (a + 1) 11))), xR (a + 15)]) (fun _ _ _ k => e_idiv dX10_pageBy_56 h8 k) ?_
          refine ev_chk (fun h9 => ?_)
          refine ev_st (pc' := 58) (L' := [xR a, xI p1, xI y2, xI y3, xU]) (st' := [xI (R (a + 15) ((w4 (Int.tdiv (R (a + 16) (y3).toNat) (R (a + 1) 11)))).toNat)]) (fun _ _ _ k => e_iald dX10_pageBy_57 (kd10_15 h_a) h9.1 h9.2 k) ?_
          refine ev_leti (fun x10 ex10 => ?_)
          refine ev_st (pc' := 60) (L' := [xR a, xI p1, xI y2, xI y3, xI x10]) (st' := []) (fun _ _ _ k => e_istore dX10_pageBy_58 (i := 4) rfl (L' := [xR a, xI p1, xI y2, xI y3, xI x10]) rfl k) ?_
          refine ev_st (pc' := 61) (L' := [xR a, xI p1, xI y2, xI y3, xI x10]) (st' := [xI y2]) (fun _ _ _ k => e_iload_n dX10_pageBy_60 rfl (i := 2) (x := y2) rfl k) ?_
          refine ev_br2 (P := y2 < 0) (pct := 70) (pcf := 64) (st' := []) (fun _ _ _ kt kf => e_iflt dX10_pageBy_61 (tgt := 70) rfl kt kf) (fun h11 => ?_) (fun h11 => ?_)
          · refine ev_st (pc' := 77) (L' := [xR a, xI p1, xI x10, xI y3, xI x10]) (st' := []) (fun _ _ _ k => e_iload dX10_pageBy_70 (i := 4) (x := x10) rfl (e_goto dX10_pageBy_72 (tgt := 76) rfl (e_istore_n dX10_pageBy_76 rfl (i := 2) rfl (L' := [xR a, xI p1, xI x10, xI y3, xI x10]) rfl k))) ?_
            refine ev_letx (fun x12 ex12 => ?_)
            refine ev_st (pc' := 80) (L' := [xR a, xI p1, xI x10, xI x12, xI x10]) (st' := []) (fun _ _ _ k => e_iinc dX10_pageBy_77 (i := 3) rfl (x := y3) rfl (y := x12) ex12 (L' := [xR a, xI p1, xI x10, xI x12, xI x10]) rfl k) ?_
            refine ev_st (pc' := 4) (L' := [xR a, xI p1, xI x10, xI x12, xU]) (st' := []) (fun _ _ _ k => e_goto dX10_pageBy_80 (tgt := 4) rfl (e_fg [4] k)) ?_
            exact ih x10 x12
          · refine ev_st (pc' := 67) (L' := [xR a, xI p1, xI y2, xI y3, xI x10]) (st' := [xI y2, xI x10]) (fun _ _ _ k => e_iload dX10_pageBy_64 (i := 4) (x := x10) rfl (e_iload_n dX10_pageBy_66 rfl (i := 2) (x := y2) rfl k)) ?_
            refine ev_tern (P := y2 ≤ x10) (a := y2) (b := x10) (pct := 75) (pcf := 70) (J := 76) (st' := []) (fun _ _ _ kt kf => e_cge dX10_pageBy_67 (tgt := 75) rfl kt kf) (fun _ _ _ k => e_iload_n dX10_pageBy_75 rfl (i := 2) (x := y2) rfl k) (fun _ _ _ k => e_iload dX10_pageBy_70 (i := 4) (x := x10) rfl (e_goto dX10_pageBy_72 (tgt := 76) rfl k)) (fun t13 et13 => ?_)
            refine ev_st (pc' := 77) (L' := [xR a, xI p1, xI t13, xI y3, xI x10]) (st' := []) (fun _ _ _ k => e_istore_n dX10_pageBy_76 rfl (i := 2) rfl (L' := [xR a, xI p1, xI t13, xI y3, xI x10]) rfl k) ?_
            refine ev_letx (fun x14 ex14 => ?_)
            refine ev_st (pc' := 80) (L' := [xR a, xI p1, xI t13, xI x14, xI x10]) (st' := []) (fun _ _ _ k => e_iinc dX10_pageBy_77 (i := 3) rfl (x := y3) rfl (y := x14) ex14 (L' := [xR a, xI p1, xI t13, xI x14, xI x10]) rfl k) ?_
            refine ev_st (pc' := 4) (L' := [xR a, xI p1, xI t13, xI x14, xU]) (st' := []) (fun _ _ _ k => e_goto dX10_pageBy_80 (tgt := 4) rfl (e_fg [4] k)) ?_
            exact ih t13 x14
      · refine ev_letx (fun x15 ex15 => ?_)
        refine ev_st (pc' := 80) (L' := [xR a, xI p1, xI y2, xI x15, xU]) (st' := []) (fun _ _ _ k => e_iinc dX10_pageBy_77 (i := 3) rfl (x := y3) rfl (y := x15) ex15 (L' := [xR a, xI p1, xI y2, xI x15, xU]) rfl k) ?_
        refine ev_st (pc' := 4) (L' := [xR a, xI p1, xI y2, xI x15, xU]) (st' := []) (fun _ _ _ k => e_goto dX10_pageBy_80 (tgt := 4) rfl k) ?_
        exact ih y2 x15
set_option maxRecDepth 20000 in
set_option maxHeartbeats 4000000 in
theorem c_X10_pageBy {l : Launch} {g : xG} {d : Nat} {A : xA} {R : xN} {a : Nat} (h_a : sh 10 A a) (i0 : Int) : Ev l g (d) mX10_pageBy 0 [xR a, xI i0, xU, xU, xU] [] A R (fun v : Int => some (xI v)) (fun _ => R) (f_X10_pageBy a i0 R) := by
  rw [f_X10_pageBy]
  refine ev_st (pc' := 4) (L' := [xR a, xI i0, xI (-1), xI 0, xU]) (st' := []) (fun _ _ _ k => e_iconst dX10_pageBy_0 (k4 rfl) (e_istore_n dX10_pageBy_1 rfl (i := 2) rfl (L' := [xR a, xI i0, xI (-1), xU, xU]) rfl (e_iconst dX10_pageBy_2 (k4 rfl) (e_istore_n dX10_pageBy_3 rfl (i := 3) rfl (L' := [xR a, xI i0, xI (-1), xI 0, xU]) rfl k)))) ?_
  refine lc_X10_pageBy_4 h_a i0 R (fun z16 z17 => ?_) 6000 (-1) 0
  exact ev_ret (e_iload_n dX10_pageBy_83 rfl (i := 2) (x := z16) rfl (e_iret dX10_pageBy_84))
def lp_X10_index_35 (a : Nat) (p2 : Int) (R : xN) : Nat → Int → Int → (Int → Int → Option (Int × xN)) → Option (Int × xN)
  | 0, _, _, _ => none
  | n + 1, y3, y4, X =>
    if 100 ≤ y4 then
    X y3 y4
    else
    (f_X10_pageBy a y4 R).bind (fun v8 =>
    if v8 < 0 then
    if v8 < 0 then
    xlet (w4 (y3 - 0)) (fun x11 =>
    xlet (w4 (y4 + 1)) (fun x12 =>
    lp_X10_index_35 a p2 R n x11 x12 X))
    else
    xlet (w4 (y3 - 1)) (fun x13 =>
    xlet (w4 (y4 + 1)) (fun x14 =>
    lp_X10_index_35 a p2 R n x13 x14 X))
    else
    if y3 = 0 then
    xlet (if p2 = 0 then y4 else v8) (fun t16 =>
    some (t16, R))
    else
    if v8 < 0 then
    xlet (w4 (y3 - 0)) (fun x18 =>
    xlet (w4 (y4 + 1)) (fun x19 =>
    lp_X10_index_35 a p2 R n x18 x19 X))
    else
    xlet (w4 (y3 - 1)) (fun x20 =>
    xlet (w4 (y4 + 1)) (fun x21 =>
    lp_X10_index_35 a p2 R n x20 x21 X)))
def f_X10_index (a : Nat) (i0 : Int) (i1 : Int) (R : xN) : Option (Int × xN) :=
  (f_X10_isBooklet a R).bind (fun v1 =>
  if v1.1 = true then
  if i0 < 0 then
  some ((-1), v1.2)
  else
  (f_X10_in i1 0 1 v1.2).bind (fun v4 =>
  if v4 = true then
  (f_X10_layNotes a v1.2).bind (fun v6 =>
  lp_X10_index_35 a i1 v6 6000 i0 0 (fun z22 z23 =>
  some ((-9), v6)))
  else
  some ((-1), v1.2))
  else
  some ((-2), v1.2))
set_option maxRecDepth 20000 in
set_option maxHeartbeats 4000000 in
theorem lc_X10_index_35 {l : Launch} {g : xG} {d : Nat} {A : xA} {a : Nat} (h_a : sh 10 A a) (p2 : Int) (R : xN) {X : Int → Int → Option (Int × xN)} (hX : ∀ (y3 : Int) (y4 : Int), Ev l g (d + 4) mX10_index 90 [xU, xU, xU, xU, xU, xU] [] A R (fun v : Int × xN => some (xI v.1)) (fun v => v.2) (X y3 y4)) (n : Nat) (y3 : Int) (y4 : Int) : Ev l g (d + 4) mX10_index 35 [xR a, xU, xI p2, xI y3, xI y4, xU] [] A R (fun v : Int × xN => some (xI v.1)) (fun v => v.2) (lp_X10_index_35 a p2 R n y3 y4 X) := by
  induction n generalizing y3 y4 with
  | zero => exact ev_none
  | succ n ih =>
    rw [lp_X10_index_35]
    refine ev_st (pc' := 39) (L' := [xR a, xU, xI p2, xI y3, xI y4, xU]) (st' := [xI 100, xI y4]) (fun _ _ _ k => e_iload dX10_index_35 (i := 4) (x := y4) rfl (e_bipush dX10_index_37 rfl (k4 rfl) k)) ?_
    refine ev_br2 (P := 100 ≤ y4) (pct := 90) (pcf := 42) (st' := []) (fun _ _ _ kt kf => e_cge dX10_index_39 (tgt := 90) rfl kt kf) (fun h7 => ?_) (fun h7 => ?_)
    · refine ev_st (pc' := 90) (L' := [xU, xU, xU, xU, xU, xU]) (st' := []) (fun _ _ _ k => e_fg [0, 2, 3, 4] k) ?_
      exact hX y3 y4
    · refine ev_st (pc' := 45) (L' := [xR a, xU, xI p2, xI y3, xI y4, xU]) (st' := [xI y4, xR a]) (fun _ _ _ k => e_aload_n dX10_index_42 rfl (i := 0) (x := a) rfl (e_iload dX10_index_43 (i := 4) (x := y4) rfl k)) ?_
      refine ev_callV (As := [xI y4]) (st := []) (fun v8 => [xI v8]) dX10_index_45 mlX10_352 (kd10_0 h_a) rfl rfl rfl rfl rfl rfl (c_X10_pageBy (d := d + 3) h_a y4) (fun _ => trivial) (fun _ => rfl) (fun v8 => ?_)
      refine ev_st (pc' := 52) (L' := [xR a, xU, xI p2, xI y3, xI y4, xI v8]) (st' := [xI v8]) (fun _ _ _ k => e_istore dX10_index_48 (i := 5) rfl (L' := [xR a, xU, xI p2, xI y3, xI y4, xI v8]) rfl (e_iload dX10_index_50 (i := 5) (x := v8) rfl k)) ?_
      refine ev_br2 (P := v8 < 0) (pct := 71) (pcf := 55) (st' := []) (fun _ _ _ kt kf => e_iflt dX10_index_52 (tgt := 71) rfl kt kf) (fun h9 => ?_) (fun h9 => ?_)
      · refine ev_st (pc' := 74) (L' := [xR a, xU, xI p2, xI y3, xI y4, xI v8]) (st' := [xI v8, xI y3]) (fun _ _ _ k => e_iload_n dX10_index_71 rfl (i := 3) (x := y3) rfl (e_iload dX10_index_72 (i := 5) (x := v8) rfl k)) ?_
        refine ev_br2 (P := v8 < 0) (pct := 81) (pcf := 77) (st' := [xI y3]) (fun _ _ _ kt kf => e_iflt dX10_index_74 (tgt := 81) rfl kt kf) (fun h10 => ?_) (fun h10 => ?_)
        · refine ev_st (pc' := 83) (L' := [xR a, xU, xI p2, xI y3, xI y4, xI v8]) (st' := [xI (w4 (y3 - 0))]) (fun _ _ _ k => e_iconst dX10_index_81 (k4 rfl) (e_isub dX10_index_82 k)) ?_
          refine ev_leti (fun x11 ex11 => ?_)
          refine ev_st (pc' := 84) (L' := [xR a, xU, xI p2, xI x11, xI y4, xI v8]) (st' := []) (fun _ _ _ k => e_istore_n dX10_index_83 rfl (i := 3) rfl (L' := [xR a, xU, xI p2, xI x11, xI y4, xI v8]) rfl k) ?_
          refine ev_letx (fun x12 ex12 => ?_)
          refine ev_st (pc' := 87) (L' := [xR a, xU, xI p2, xI x11, xI x12, xI v8]) (st' := []) (fun _ _ _ k => e_iinc dX10_index_84 (i := 4) rfl (x := y4) rfl (y := x12) ex12 (L' := [xR a, xU, xI p2, xI x11, xI x12, xI v8]) rfl k) ?_
          refine ev_st (pc' := 35) (L' := [xR a, xU, xI p2, xI x11, xI x12, xU]) (st' := []) (fun _ _ _ k => e_goto dX10_index_87 (tgt := 35) rfl (e_fg [5] k)) ?_
          exact ih x11 x12
        · refine ev_st (pc' := 83) (L' := [xR a, xU, xI p2, xI y3, xI y4, xI v8]) (st' := [xI (w4 (y3 - 1))]) (fun _ _ _ k => e_iconst dX10_index_77 (k4 rfl) (e_goto dX10_index_78 (tgt := 82) rfl (e_isub dX10_index_82 k))) ?_
          refine ev_leti (fun x13 ex13 => ?_)
          refine ev_st (pc' := 84) (L' := [xR a, xU, xI p2, xI x13, xI y4, xI v8]) (st' := []) (fun _ _ _ k => e_istore_n dX10_index_83 rfl (i := 3) rfl (L' := [xR a, xU, xI p2, xI x13, xI y4, xI v8]) rfl k) ?_
          refine ev_letx (fun x14 ex14 => ?_)
          refine ev_st (pc' := 87) (L' := [xR a, xU, xI p2, xI x13, xI x14, xI v8]) (st' := []) (fun _ _ _ k => e_iinc dX10_index_84 (i := 4) rfl (x := y4) rfl (y := x14) ex14 (L' := [xR a, xU, xI p2, xI x13, xI x14, xI v8]) rfl k) ?_
          refine ev_st (pc' := 35) (L' := [xR a, xU, xI p2, xI x13, xI x14, xU]) (st' := []) (fun _ _ _ k => e_goto dX10_index_87 (tgt := 35) rfl (e_fg [5] k)) ?_
          exact ih x13 x14
      · refine ev_st (pc' := 56) (L' := [xR a, xU, xI p2, xI y3, xI y4, xI v8]) (st' := [xI y3]) (fun _ _ _ k => e_iload_n dX10_index_55 rfl (i := 3) (x := y3) rfl k) ?_
        refine ev_br2 (P := y3 = 0) (pct := 59) (pcf := 71) (st' := []) (fun _ _ _ kt kf => e_ifne dX10_index_56 (tgt := 71) rfl kt kf) (fun h15 => ?_) (fun h15 => ?_)
        · refine ev_st (pc' := 60) (L' := [xR a, xU, xI p2, xI y3, xI y4, xI v8]) (st' := [xI p2]) (fun _ _ _ k => e_iload_n dX10_index_59 rfl (i := 2) (x := p2) rfl k) ?_
          refine ev_tern (P := p2 = 0) (a := y4) (b := v8) (pct := 63) (pcf := 68) (J := 70) (st' := []) (fun _ _ _ kt kf => e_ifne dX10_index_60 (tgt := 68) rfl kt kf) (fun _ _ _ k => e_iload dX10_index_63 (i := 4) (x := y4) rfl (e_goto dX10_index_65 (tgt := 70) rfl k)) (fun _ _ _ k => e_iload dX10_index_68 (i := 5) (x := v8) rfl k) (fun t16 et16 => ?_)
          exact ev_ret (e_iret dX10_index_70)
        · refine ev_st (pc' := 74) (L' := [xR a, xU, xI p2, xI y3, xI y4, xI v8]) (st' := [xI v8, xI y3]) (fun _ _ _ k => e_iload_n dX10_index_71 rfl (i := 3) (x := y3) rfl (e_iload dX10_index_72 (i := 5) (x := v8) rfl k)) ?_
          refine ev_br2 (P := v8 < 0) (pct := 81) (pcf := 77) (st' := [xI y3]) (fun _ _ _ kt kf => e_iflt dX10_index_74 (tgt := 81) rfl kt kf) (fun h17 => ?_) (fun h17 => ?_)
          · refine ev_st (pc' := 83) (L' := [xR a, xU, xI p2, xI y3, xI y4, xI v8]) (st' := [xI (w4 (y3 - 0))]) (fun _ _ _ k => e_iconst dX10_index_81 (k4 rfl) (e_isub dX10_index_82 k)) ?_
            refine ev_leti (fun x18 ex18 => ?_)
            refine ev_st (pc' := 84) (L' := [xR a, xU, xI p2, xI x18, xI y4, xI v8]) (st' := []) (fun _ _ _ k => e_istore_n dX10_index_83 rfl (i := 3) rfl (L' := [xR a, xU, xI p2, xI x18, xI y4, xI v8]) rfl k) ?_
            refine ev_letx (fun x19 ex19 => ?_)
            refine ev_st (pc' := 87) (L' := [xR a, xU, xI p2, xI x18, xI x19, xI v8]) (st' := []) (fun _ _ _ k => e_iinc dX10_index_84 (i := 4) rfl (x := y4) rfl (y := x19) ex19 (L' := [xR a, xU, xI p2, xI x18, xI x19, xI v8]) rfl k) ?_
            refine ev_st (pc' := 35) (L' := [xR a, xU, xI p2, xI x18, xI x19, xU]) (st' := []) (fun _ _ _ k => e_goto dX10_index_87 (tgt := 35) rfl (e_fg [5] k)) ?_
            exact ih x18 x19
          · refine ev_st (pc' := 83) (L' := [xR a, xU, xI p2, xI y3, xI y4, xI v8]) (st' := [xI (w4 (y3 - 1))]) (fun _ _ _ k => e_iconst dX10_index_77 (k4 rfl) (e_goto dX10_index_78 (tgt := 82) rfl (e_isub dX10_index_82 k))) ?_
            refine ev_leti (fun x20 ex20 => ?_)
            refine ev_st (pc' := 84) (L' := [xR a, xU, xI p2, xI x20, xI y4, xI v8]) (st' := []) (fun _ _ _ k => e_istore_n dX10_index_83 rfl (i := 3) rfl (L' := [xR a, xU, xI p2, xI x20, xI y4, xI v8]) rfl k) ?_
            refine ev_letx (fun x21 ex21 => ?_)
            refine ev_st (pc' := 87) (L' := [xR a, xU, xI p2, xI x20, xI x21, xI v8]) (st' := []) (fun _ _ _ k => e_iinc dX10_index_84 (i := 4) rfl (x := y4) rfl (y := x21) ex21 (L' := [xR a, xU, xI p2, xI x20, xI x21, xI v8]) rfl k) ?_
            refine ev_st (pc' := 35) (L' := [xR a, xU, xI p2, xI x20, xI x21, xU]) (st' := []) (fun _ _ _ k => e_goto dX10_index_87 (tgt := 35) rfl (e_fg [5] k)) ?_
            exact ih x20 x21
set_option maxRecDepth 20000 in
set_option maxHeartbeats 4000000 in
theorem c_X10_index {l : Launch} {g : xG} {d : Nat} {A : xA} {R : xN} {a : Nat} (h_a : sh 10 A a) (i0 : Int) (i1 : Int) : Ev l g (d + 4) mX10_index 0 [xR a, xI i0, xI i1, xU, xU, xU] [] A R (fun v : Int × xN => some (xI v.1)) (fun v => v.2) (f_X10_index a i0 i1 R) := by
  rw [f_X10_index]
  refine ev_st (pc' := 1) (L' := [xR a, xI i0, xI i1, xU, xU, xU]) (st' := [xR a]) (fun _ _ _ k => e_aload_n dX10_index_0 rfl (i := 0) (x := a) rfl k) ?_
  refine ev_callV (As := []) (st := []) (fun v1 => [xI (xz v1.1)]) dX10_index_1 mlX10_162 (kd10_0 h_a) rfl rfl rfl rfl rfl rfl (c_X10_isBooklet (d := d) h_a) (fun _ => xz01 _) (fun _ => rfl) (fun v1 => ?_)
  refine ev_br2 (P := v1.1 = true) (pct := 10) (pcf := 7) (st' := []) (fun _ _ _ kt kf => e_ifnez dX10_index_4 (tgt := 10) rfl kt kf) (fun h2 => ?_) (fun h2 => ?_)
  · refine ev_st (pc' := 11) (L' := [xR a, xI i0, xI i1, xU, xU, xU]) (st' := [xI i0]) (fun _ _ _ k => e_iload_n dX10_index_10 rfl (i := 1) (x := i0) rfl k) ?_
    refine ev_br2 (P := i0 < 0) (pct := 24) (pcf := 14) (st' := []) (fun _ _ _ kt kf => e_iflt dX10_index_11 (tgt := 24) rfl kt kf) (fun h3 => ?_) (fun h3 => ?_)
    · exact ev_ret (e_iconst dX10_index_24 (k4 rfl) (e_iret dX10_index_25))
    · refine ev_st (pc' := 18) (L' := [xR a, xI i0, xI i1, xU, xU, xU]) (st' := [xL 1, xL 0, xL i1]) (fun _ _ _ k => e_iload_n dX10_index_14 rfl (i := 2) (x := i1) rfl (e_i2l dX10_index_15 (e_lconst dX10_index_16 (i := 0) rfl (k8 rfl) (e_lconst dX10_index_17 (i := 1) rfl (k8 rfl) k)))) ?_
      refine ev_callS (As := [xL i1, xL 0, xL 1]) (st := []) (fun v4 => [xI (xz v4)]) dX10_index_18 mlX10_101 rfl rfl rfl rfl rfl rfl (c_X10_in (d := d + 3) i1 0 1) (fun _ => xz01 _) (fun _ => rfl) (fun v4 => ?_)
      refine ev_br2 (P := v4 = true) (pct := 26) (pcf := 24) (st' := []) (fun _ _ _ kt kf => e_ifnez dX10_index_21 (tgt := 26) rfl kt kf) (fun h5 => ?_) (fun h5 => ?_)
      · refine ev_st (pc' := 27) (L' := [xR a, xI i0, xI i1, xU, xU, xU]) (st' := [xR a]) (fun _ _ _ k => e_aload_n dX10_index_26 rfl (i := 0) (x := a) rfl k) ?_
        refine ev_callV (As := []) (st := []) (fun v6 => []) dX10_index_27 mlX10_347 (kd10_0 h_a) rfl rfl rfl rfl rfl rfl (c_X10_layNotes (d := d) h_a) (fun _ => trivial) (fun _ => rfl) (fun v6 => ?_)
        refine ev_st (pc' := 35) (L' := [xR a, xU, xI i1, xI i0, xI 0, xU]) (st' := []) (fun _ _ _ k => e_iload_n dX10_index_30 rfl (i := 1) (x := i0) rfl (e_istore_n dX10_index_31 rfl (i := 3) rfl (L' := [xR a, xI i0, xI i1, xI i0, xU, xU]) rfl (e_iconst dX10_index_32 (k4 rfl) (e_istore dX10_index_33 (i := 4) rfl (L' := [xR a, xI i0, xI i1, xI i0, xI 0, xU]) rfl (e_fg [1] k))))) ?_
        refine lc_X10_index_35 h_a i1 v6 (fun z22 z23 => ?_) 6000 i0 0
        exact ev_ret (e_bipush dX10_index_90 rfl (k4 rfl) (e_iret dX10_index_92))
      · exact ev_ret (e_iconst dX10_index_24 (k4 rfl) (e_iret dX10_index_25))
  · exact ev_ret (e_bipush dX10_index_7 rfl (k4 rfl) (e_iret dX10_index_9))
def f_X10_effort (a : Nat) (i0 : Int) (R : xN) : Option (Int) :=
  (f_X10_in i0 0 4 R).bind (fun v1 =>
  if v1 = true then
  if 4 ≤ i0 then
  some (w4 ((w4 ((w4 ((R (a + 1) 86) + (R (a + 1) 87))) + (R (a + 1) 88))) + (R (a + 1) 89)))
  else
  if 0 ≤ (w4 (86 + i0)) ∧ (w4 (86 + i0)) < 464 then
  some (R (a + 1) ((w4 (86 + i0))).toNat)
  else none
  else
  some (-1))
set_option maxRecDepth 20000 in
set_option maxHeartbeats 4000000 in
theorem c_X10_effort {l : Launch} {g : xG} {d : Nat} {A : xA} {R : xN} {a : Nat} (h_a : sh 10 A a) (i0 : Int) : Ev l g (d + 1) mX10_effort 0 [xR a, xI i0] [] A R (fun v : Int => some (xI v)) (fun _ => R) (f_X10_effort a i0 R) := by
  rw [f_X10_effort]
  refine ev_st (pc' := 6) (L' := [xR a, xI i0]) (st' := [xL 4, xL 0, xL i0]) (fun _ _ _ k => e_iload_n dX10_effort_0 rfl (i := 1) (x := i0) rfl (e_i2l dX10_effort_1 (e_lconst dX10_effort_2 (i := 0) rfl (k8 rfl) (e_ldc2 dX10_effort_3 ckX10_99 (k8 rfl) k)))) ?_
  refine ev_callS (As := [xL i0, xL 0, xL 4]) (st := []) (fun v1 => [xI (xz v1)]) dX10_effort_6 mlX10_101 rfl rfl rfl rfl rfl rfl (c_X10_in (d := d) i0 0 4) (fun _ => xz01 _) (fun _ => rfl) (fun v1 => ?_)
  refine ev_br2 (P := v1 = true) (pct := 14) (pcf := 12) (st' := []) (fun _ _ _ kt kf => e_ifnez dX10_effort_9 (tgt := 14) rfl kt kf) (fun h2 => ?_) (fun h2 => ?_)
  · refine ev_st (pc' := 16) (L' := [xR a, xI i0]) (st' := [xI 4, xI i0]) (fun _ _ _ k => e_iload_n dX10_effort_14 rfl (i := 1) (x := i0) rfl (e_iconst dX10_effort_15 (k4 rfl) k)) ?_
    refine ev_br2 (P := 4 ≤ i0) (pct := 31) (pcf := 19) (st' := []) (fun _ _ _ kt kf => e_cge dX10_effort_16 (tgt := 31) rfl kt kf) (fun h3 => ?_) (fun h3 => ?_)
    · exact ev_ret (e_aload_n dX10_effort_31 rfl (i := 0) (x := a) rfl (e_getr dX10_effort_32 flX10_7 (kd10_0 h_a) rfl (rf10_0_0 h_a) (e_bipush dX10_effort_35 rfl (k4 rfl) (e_iald dX10_effort_37 (kd10_1 h_a) (by decide) (by decide) (e_aload_n dX10_effort_38 rfl (i := 0) (x := a) rfl (e_getr dX10_effort_39 flX10_7 (kd10_0 h_a) rfl (rf10_0_0 h_a) (e_bipush dX10_effort_42 rfl (k4 rfl) (e_iald dX10_effort_44 (kd10_1 h_a) (by decide) (by decide) (e_iadd dX10_effort_45 (e_aload_n dX10_effort_46 rfl (i := 0) (x := a) rfl (e_getr dX10_effort_47 flX10_7 (kd10_0 h_a) rfl (rf10_0_0 h_a) (e_bipush dX10_effort_50 rfl (k4 rfl) (e_iald dX10_effort_52 (kd10_1 h_a) (by decide) (by decide) (e_iadd dX10_effort_53 (e_aload_n dX10_effort_54 rfl (i := 0) (x := a) rfl (e_getr dX10_effort_55 flX10_7 (kd10_0 h_a) rfl (rf10_0_0 h_a) (e_bipush dX10_effort_58 rfl (k4 rfl) (e_iald dX10_effort_60 (kd10_1 h_a) (by decide) (by decide) (e_iadd dX10_effort_61 (e_iret dX10_effort_62))))))))))))))))))))
    · refine ev_st (pc' := 27) (L' := [xR a, xI i0]) (st' := [xI (w4 (86 + i0)), xR (a + 1)]) (fun _ _ _ k => e_aload_n dX10_effort_19 rfl (i := 0) (x := a) rfl (e_getr dX10_effort_20 flX10_7 (kd10_0 h_a) rfl (rf10_0_0 h_a) (e_bipush dX10_effort_23 rfl (k4 rfl) (e_iload_n dX10_effort_25 rfl (i := 1) (x := i0) rfl (e_iadd dX10_effort_26 k))))) ?_
      refine ev_chk (fun h4 => ?_)
      refine ev_st (pc' := 28) (L' := [xR a, xI i0]) (st' := [xI (R (a + 1) ((w4 (86 + i0))).toNat)]) (fun _ _ _ k => e_iald dX10_effort_27 (kd10_1 h_a) h4.1 h4.2 k) ?_
      exact ev_ret (e_goto dX10_effort_28 (tgt := 62) rfl (e_iret dX10_effort_62))
  · exact ev_ret (e_iconst dX10_effort_12 (k4 rfl) (e_iret dX10_effort_13))
def lp_X10_isSeen_4 (a : Nat) (R : xN) : Nat → Bool → Int → (Bool → Int → Option (Bool)) → Option (Bool)
  | 0, _, _, _ => none
  | n + 1, y1, y2, X =>
    if (R (a + 1) 12) ≤ y2 then
    X y1 y2
    else
    xlet (w4 (13 + (w4 (3 * y2)))) (fun x2 =>
    if y1 = true then
    if 0 ≤ x2 ∧ x2 < 464 then
    (f_X10_printedOn a (R (a + 1) (x2).toNat) R).bind (fun v5 =>
    if 0 ≤ (w4 (x2 + 1)) ∧ (w4 (x2 + 1)) < 464 then
    if v5 = (R (a + 1) ((w4 (x2 + 1))).toNat) then
    if 0 ≤ x2 ∧ x2 < 464 then
    (f_X10_isUpright a (R (a + 1) (x2).toNat) R).bind (fun v9 =>
    if 0 ≤ (w4 (x2 + 2)) ∧ (w4 (x2 + 2)) < 464 then
    if (R (a + 1) ((w4 (x2 + 2))).toNat) = 0 then
    if (xz v9) = 1 then
    xlet (w4 (y2 + 1)) (fun x13 =>
    lp_X10_isSeen_4 a R n true x13 X)
    else
    xlet (w4 (y2 + 1)) (fun x14 =>
    lp_X10_isSeen_4 a R n false x14 X)
    else
    if (xz v9) = 0 then
    xlet (w4 (y2 + 1)) (fun x16 =>
    lp_X10_isSeen_4 a R n true x16 X)
    else
    xlet (w4 (y2 + 1)) (fun x17 =>
    lp_X10_isSeen_4 a R n false x17 X)
    else none)
    else none
    else
    xlet (w4 (y2 + 1)) (fun x18 =>
    lp_X10_isSeen_4 a R n false x18 X)
    else none)
    else none
    else
    xlet (w4 (y2 + 1)) (fun x19 =>
    lp_X10_isSeen_4 a R n false x19 X))
def f_X10_isSeen (a : Nat) (R : xN) : Option (Bool) :=
  lp_X10_isSeen_4 a R 6000 true 0 (fun z20 z21 =>
  some z20)
set_option maxRecDepth 20000 in
set_option maxHeartbeats 4000000 in
theorem lc_X10_isSeen_4 {l : Launch} {g : xG} {d : Nat} {A : xA} {a : Nat} (h_a : sh 10 A a) (R : xN) {X : Bool → Int → Option (Bool)} (hX : ∀ (y1 : Bool) (y2 : Int), Ev l g (d + 2) mX10_isSeen 88 [xU, xI (xz y1), xU, xU] [] A R (fun v : Bool => some (xI (xz v))) (fun _ => R) (X y1 y2)) (n : Nat) (y1 : Bool) (y2 : Int) : Ev l g (d + 2) mX10_isSeen 4 [xR a, xI (xz y1), xI y2, xU] [] A R (fun v : Bool => some (xI (xz v))) (fun _ => R) (lp_X10_isSeen_4 a R n y1 y2 X) := by
  induction n generalizing y1 y2 with
  | zero => exact ev_none
  | succ n ih =>
    rw [lp_X10_isSeen_4]
    refine ev_st (pc' := 12) (L' := [xR a, xI (xz y1), xI y2, xU]) (st' := [xI (R (a + 1) 12), xI y2]) (fun _ _ _ k => e_iload_n dX10_isSeen_4 rfl (i := 2) (x := y2) rfl (e_aload_n dX10_isSeen_5 rfl (i := 0) (x := a) rfl (e_getr dX10_isSeen_6 flX10_7 (kd10_0 h_a) rfl (rf10_0_0 h_a) (e_bipush dX10_isSeen_9 rfl (k4 rfl) (e_iald dX10_isSeen_11 (kd10_1 h_a) (by decide) (by decide) k))))) ?_
    refine ev_br2 (P := (R (a + 1) 12) ≤ y2) (pct := 88) (pcf := 15) (st' := []) (fun _ _ _ kt kf => e_cge dX10_isSeen_12 (tgt := 88) rfl kt kf) (fun h1 => ?_) (fun h1 => ?_)
    · refine ev_st (pc' := 88) (L' := [xU, xI (xz y1), xU, xU]) (st' := []) (fun _ _ _ k => e_fg [0, 2] k) ?_
      exact hX y1 y2
    · refine ev_st (pc' := 21) (L' := [xR a, xI (xz y1), xI y2, xU]) (st' := [xI (w4 (13 + (w4 (3 * y2))))]) (fun _ _ _ k => e_bipush dX10_isSeen_15 rfl (k4 rfl) (e_iconst dX10_isSeen_17 (k4 rfl) (e_iload_n dX10_isSeen_18 rfl (i := 2) (x := y2) rfl (e_imul dX10_isSeen_19 (e_iadd dX10_isSeen_20 k))))) ?_
      refine ev_leti (fun x2 ex2 => ?_)
      refine ev_st (pc' := 22) (L' := [xR a, xI (xz y1), xI y2, xI x2]) (st' := []) (fun _ _ _ k => e_istore_n dX10_isSeen_21 rfl (i := 3) rfl (L' := [xR a, xI (xz y1), xI y2, xI x2]) rfl k) ?_
      refine ev_st (pc' := 23) (L' := [xR a, xI (xz y1), xI y2, xI x2]) (st' := [xI (xz y1)]) (fun _ _ _ k => e_iload_n dX10_isSeen_22 rfl (i := 1) (x := (xz y1)) rfl k) ?_
      refine ev_br2 (P := y1 = true) (pct := 26) (pcf := 80) (st' := []) (fun _ _ _ kt kf => e_ifeqz dX10_isSeen_23 (tgt := 80) rfl kt kf) (fun h3 => ?_) (fun h3 => ?_)
      · refine ev_st (pc' := 32) (L' := [xR a, xI (xz y1), xI y2, xI x2]) (st' := [xI x2, xR (a + 1), xR a]) (fun _ _ _ k => e_aload_n dX10_isSeen_26 rfl (i := 0) (x := a) rfl (e_aload_n dX10_isSeen_27 rfl (i := 0) (x := a) rfl (e_getr dX10_isSeen_28 flX10_7 (kd10_0 h_a) rfl (rf10_0_0 h_a) (e_iload_n dX10_isSeen_31 rfl (i := 3) (x := x2) rfl k)))) ?_
        refine ev_chk (fun h4 => ?_)
        refine ev_st (pc' := 33) (L' := [xR a, xI (xz y1), xI y2, xI x2]) (st' := [xI (R (a + 1) (x2).toNat), xR a]) (fun _ _ _ k => e_iald dX10_isSeen_32 (kd10_1 h_a) h4.1 h4.2 k) ?_
        refine ev_callV (As := [xI (R (a + 1) (x2).toNat)]) (st := []) (fun v5 => [xI v5]) dX10_isSeen_33 mlX10_130 (kd10_0 h_a) rfl rfl rfl rfl rfl rfl (c_X10_printedOn (d := d) h_a (R (a + 1) (x2).toNat)) (fun _ => trivial) (fun _ => rfl) (fun v5 => ?_)
        refine ev_st (pc' := 43) (L' := [xR a, xI (xz y1), xI y2, xI x2]) (st' := [xI (w4 (x2 + 1)), xR (a + 1), xI v5]) (fun _ _ _ k => e_aload_n dX10_isSeen_36 rfl (i := 0) (x := a) rfl (e_getr dX10_isSeen_37 flX10_7 (kd10_0 h_a) rfl (rf10_0_0 h_a) (e_iload_n dX10_isSeen_40 rfl (i := 3) (x := x2) rfl (e_iconst dX10_isSeen_41 (k4 rfl) (e_iadd dX10_isSeen_42 k))))) ?_
        refine ev_chk (fun h6 => ?_)
        refine ev_st (pc' := 44) (L' := [xR a, xI (xz y1), xI y2, xI x2]) (st' := [xI (R (a + 1) ((w4 (x2 + 1))).toNat), xI v5]) (fun _ _ _ k => e_iald dX10_isSeen_43 (kd10_1 h_a) h6.1 h6.2 k) ?_
        refine ev_br2 (P := v5 = (R (a + 1) ((w4 (x2 + 1))).toNat)) (pct := 47) (pcf := 80) (st' := []) (fun _ _ _ kt kf => e_cne dX10_isSeen_44 (tgt := 80) rfl kt kf) (fun h7 => ?_) (fun h7 => ?_)
        · refine ev_st (pc' := 53) (L' := [xR a, xI (xz y1), xI y2, xI x2]) (st' := [xI x2, xR (a + 1), xR a]) (fun _ _ _ k => e_aload_n dX10_isSeen_47 rfl (i := 0) (x := a) rfl (e_aload_n dX10_isSeen_48 rfl (i := 0) (x := a) rfl (e_getr dX10_isSeen_49 flX10_7 (kd10_0 h_a) rfl (rf10_0_0 h_a) (e_iload_n dX10_isSeen_52 rfl (i := 3) (x := x2) rfl k)))) ?_
          refine ev_chk (fun h8 => ?_)
          refine ev_st (pc' := 54) (L' := [xR a, xI (xz y1), xI y2, xI x2]) (st' := [xI (R (a + 1) (x2).toNat), xR a]) (fun _ _ _ k => e_iald dX10_isSeen_53 (kd10_1 h_a) h8.1 h8.2 k) ?_
          refine ev_callV (As := [xI (R (a + 1) (x2).toNat)]) (st := []) (fun v9 => [xI (xz v9)]) dX10_isSeen_54 mlX10_133 (kd10_0 h_a) rfl rfl rfl rfl rfl rfl (c_X10_isUpright (d := d) h_a (R (a + 1) (x2).toNat)) (fun _ => xz01 _) (fun _ => rfl) (fun v9 => ?_)
          refine ev_st (pc' := 64) (L' := [xR a, xI (xz y1), xI y2, xI x2]) (st' := [xI (w4 (x2 + 2)), xR (a + 1), xI (xz v9)]) (fun _ _ _ k => e_aload_n dX10_isSeen_57 rfl (i := 0) (x := a) rfl (e_getr dX10_isSeen_58 flX10_7 (kd10_0 h_a) rfl (rf10_0_0 h_a) (e_iload_n dX10_isSeen_61 rfl (i := 3) (x := x2) rfl (e_iconst dX10_isSeen_62 (k4 rfl) (e_iadd dX10_isSeen_63 k))))) ?_
          refine ev_chk (fun h10 => ?_)
          refine ev_st (pc' := 65) (L' := [xR a, xI (xz y1), xI y2, xI x2]) (st' := [xI (R (a + 1) ((w4 (x2 + 2))).toNat), xI (xz v9)]) (fun _ _ _ k => e_iald dX10_isSeen_64 (kd10_1 h_a) h10.1 h10.2 k) ?_
          refine ev_br2 (P := (R (a + 1) ((w4 (x2 + 2))).toNat) = 0) (pct := 68) (pcf := 72) (st' := [xI (xz v9)]) (fun _ _ _ kt kf => e_ifne dX10_isSeen_65 (tgt := 72) rfl kt kf) (fun h11 => ?_) (fun h11 => ?_)
          · refine ev_st (pc' := 73) (L' := [xR a, xI (xz y1), xI y2, xI x2]) (st' := [xI 1, xI (xz v9)]) (fun _ _ _ k => e_iconst dX10_isSeen_68 (k4 rfl) (e_goto dX10_isSeen_69 (tgt := 73) rfl k)) ?_
            refine ev_br2 (P := (xz v9) = 1) (pct := 76) (pcf := 80) (st' := []) (fun _ _ _ kt kf => e_cne dX10_isSeen_73 (tgt := 80) rfl kt kf) (fun h12 => ?_) (fun h12 => ?_)
            · refine ev_st (pc' := 82) (L' := [xR a, xI 1, xI y2, xI x2]) (st' := []) (fun _ _ _ k => e_iconst dX10_isSeen_76 (k4 rfl) (e_goto dX10_isSeen_77 (tgt := 81) rfl (e_istore_n dX10_isSeen_81 rfl (i := 1) rfl (L' := [xR a, xI 1, xI y2, xI x2]) rfl k))) ?_
              refine ev_letx (fun x13 ex13 => ?_)
              refine ev_st (pc' := 85) (L' := [xR a, xI 1, xI x13, xI x2]) (st' := []) (fun _ _ _ k => e_iinc dX10_isSeen_82 (i := 2) rfl (x := y2) rfl (y := x13) ex13 (L' := [xR a, xI 1, xI x13, xI x2]) rfl k) ?_
              refine ev_st (pc' := 4) (L' := [xR a, xI 1, xI x13, xU]) (st' := []) (fun _ _ _ k => e_goto dX10_isSeen_85 (tgt := 4) rfl (e_fg [3] k)) ?_
              exact ih true x13
            · refine ev_st (pc' := 82) (L' := [xR a, xI 0, xI y2, xI x2]) (st' := []) (fun _ _ _ k => e_iconst dX10_isSeen_80 (k4 rfl) (e_istore_n dX10_isSeen_81 rfl (i := 1) rfl (L' := [xR a, xI 0, xI y2, xI x2]) rfl k)) ?_
              refine ev_letx (fun x14 ex14 => ?_)
              refine ev_st (pc' := 85) (L' := [xR a, xI 0, xI x14, xI x2]) (st' := []) (fun _ _ _ k => e_iinc dX10_isSeen_82 (i := 2) rfl (x := y2) rfl (y := x14) ex14 (L' := [xR a, xI 0, xI x14, xI x2]) rfl k) ?_
              refine ev_st (pc' := 4) (L' := [xR a, xI 0, xI x14, xU]) (st' := []) (fun _ _ _ k => e_goto dX10_isSeen_85 (tgt := 4) rfl (e_fg [3] k)) ?_
              exact ih false x14
          · refine ev_st (pc' := 73) (L' := [xR a, xI (xz y1), xI y2, xI x2]) (st' := [xI 0, xI (xz v9)]) (fun _ _ _ k => e_iconst dX10_isSeen_72 (k4 rfl) k) ?_
            refine ev_br2 (P := (xz v9) = 0) (pct := 76) (pcf := 80) (st' := []) (fun _ _ _ kt kf => e_cne dX10_isSeen_73 (tgt := 80) rfl kt kf) (fun h15 => ?_) (fun h15 => ?_)
            · refine ev_st (pc' := 82) (L' := [xR a, xI 1, xI y2, xI x2]) (st' := []) (fun _ _ _ k => e_iconst dX10_isSeen_76 (k4 rfl) (e_goto dX10_isSeen_77 (tgt := 81) rfl (e_istore_n dX10_isSeen_81 rfl (i := 1) rfl (L' := [xR a, xI 1, xI y2, xI x2]) rfl k))) ?_
              refine ev_letx (fun x16 ex16 => ?_)
              refine ev_st (pc' := 85) (L' := [xR a, xI 1, xI x16, xI x2]) (st' := []) (fun _ _ _ k => e_iinc dX10_isSeen_82 (i := 2) rfl (x := y2) rfl (y := x16) ex16 (L' := [xR a, xI 1, xI x16, xI x2]) rfl k) ?_
              refine ev_st (pc' := 4) (L' := [xR a, xI 1, xI x16, xU]) (st' := []) (fun _ _ _ k => e_goto dX10_isSeen_85 (tgt := 4) rfl (e_fg [3] k)) ?_
              exact ih true x16
            · refine ev_st (pc' := 82) (L' := [xR a, xI 0, xI y2, xI x2]) (st' := []) (fun _ _ _ k => e_iconst dX10_isSeen_80 (k4 rfl) (e_istore_n dX10_isSeen_81 rfl (i := 1) rfl (L' := [xR a, xI 0, xI y2, xI x2]) rfl k)) ?_
              refine ev_letx (fun x17 ex17 => ?_)
              refine ev_st (pc' := 85) (L' := [xR a, xI 0, xI x17, xI x2]) (st' := []) (fun _ _ _ k => e_iinc dX10_isSeen_82 (i := 2) rfl (x := y2) rfl (y := x17) ex17 (L' := [xR a, xI 0, xI x17, xI x2]) rfl k) ?_
              refine ev_st (pc' := 4) (L' := [xR a, xI 0, xI x17, xU]) (st' := []) (fun _ _ _ k => e_goto dX10_isSeen_85 (tgt := 4) rfl (e_fg [3] k)) ?_
              exact ih false x17
        · refine ev_st (pc' := 82) (L' := [xR a, xI 0, xI y2, xI x2]) (st' := []) (fun _ _ _ k => e_iconst dX10_isSeen_80 (k4 rfl) (e_istore_n dX10_isSeen_81 rfl (i := 1) rfl (L' := [xR a, xI 0, xI y2, xI x2]) rfl k)) ?_
          refine ev_letx (fun x18 ex18 => ?_)
          refine ev_st (pc' := 85) (L' := [xR a, xI 0, xI x18, xI x2]) (st' := []) (fun _ _ _ k => e_iinc dX10_isSeen_82 (i := 2) rfl (x := y2) rfl (y := x18) ex18 (L' := [xR a, xI 0, xI x18, xI x2]) rfl k) ?_
          refine ev_st (pc' := 4) (L' := [xR a, xI 0, xI x18, xU]) (st' := []) (fun _ _ _ k => e_goto dX10_isSeen_85 (tgt := 4) rfl (e_fg [3] k)) ?_
          exact ih false x18
      · refine ev_st (pc' := 82) (L' := [xR a, xI 0, xI y2, xI x2]) (st' := []) (fun _ _ _ k => e_iconst dX10_isSeen_80 (k4 rfl) (e_istore_n dX10_isSeen_81 rfl (i := 1) rfl (L' := [xR a, xI 0, xI y2, xI x2]) rfl k)) ?_
        refine ev_letx (fun x19 ex19 => ?_)
        refine ev_st (pc' := 85) (L' := [xR a, xI 0, xI x19, xI x2]) (st' := []) (fun _ _ _ k => e_iinc dX10_isSeen_82 (i := 2) rfl (x := y2) rfl (y := x19) ex19 (L' := [xR a, xI 0, xI x19, xI x2]) rfl k) ?_
        refine ev_st (pc' := 4) (L' := [xR a, xI 0, xI x19, xU]) (st' := []) (fun _ _ _ k => e_goto dX10_isSeen_85 (tgt := 4) rfl (e_fg [3] k)) ?_
        exact ih false x19
set_option maxRecDepth 20000 in
set_option maxHeartbeats 4000000 in
theorem c_X10_isSeen {l : Launch} {g : xG} {d : Nat} {A : xA} {R : xN} {a : Nat} (h_a : sh 10 A a)  : Ev l g (d + 2) mX10_isSeen 0 [xR a, xU, xU, xU] [] A R (fun v : Bool => some (xI (xz v))) (fun _ => R) (f_X10_isSeen a R) := by
  rw [f_X10_isSeen]
  refine ev_st (pc' := 4) (L' := [xR a, xI 1, xI 0, xU]) (st' := []) (fun _ _ _ k => e_iconst dX10_isSeen_0 (k4 rfl) (e_istore_n dX10_isSeen_1 rfl (i := 1) rfl (L' := [xR a, xI 1, xU, xU]) rfl (e_iconst dX10_isSeen_2 (k4 rfl) (e_istore_n dX10_isSeen_3 rfl (i := 2) rfl (L' := [xR a, xI 1, xI 0, xU]) rfl k)))) ?_
  refine lc_X10_isSeen_4 h_a R (fun z20 z21 => ?_) 6000 true 0
  exact ev_ret (e_iload_n dX10_isSeen_88 rfl (i := 1) (x := (xz z20)) rfl (e_iret dX10_isSeen_89))
def lp_X10_fitting_26 (a : Nat) (p1 : Int) : Nat → Int → Int → Int → Int → xN → (Int → Int → Int → Int → xN → Option (Int × xN)) → Option (Int × xN)
  | 0, _, _, _, _, _, _ => none
  | n + 1, y2, y3, y4, y5, R, X =>
    if 5000 ≤ y5 then
    X y2 y3 y4 y5 R
    else
    (f_X10_layBy a y5 R).bind (fun v4 =>
    if v4.1 = true then
    (f_X10_isSeen a v4.2).bind (fun v6 =>
    if v6 = true then
    xlet (if y2 = 0 then y5 else y3) (fun t8 =>
    xlet (w4 (y2 + 1)) (fun x9 =>
    xlet (w4 (y5 + 1)) (fun x10 =>
    lp_X10_fitting_26 a p1 n x9 t8 y5 x10 v4.2 X)))
    else
    xlet (w4 (y5 + 1)) (fun x11 =>
    lp_X10_fitting_26 a p1 n y2 y3 y4 x11 v4.2 X))
    else
    xlet (w4 (y5 + 1)) (fun x12 =>
    lp_X10_fitting_26 a p1 n y2 y3 y4 x12 v4.2 X))
def f_X10_fitting (a : Nat) (i0 : Int) (R : xN) : Option (Int × xN) :=
  (f_X10_in i0 0 2 R).bind (fun v1 =>
  if v1 = true then
  lp_X10_fitting_26 a i0 6000 0 (-9) (-9) 0 R (fun z13 z14 z15 z16 R17 =>
  if i0 = 0 then
  some (z13, R17)
  else
  xlet (if i0 = 1 then z14 else z15) (fun t19 =>
  some (t19, R17)))
  else
  some ((-1), R))
set_option maxRecDepth 20000 in
set_option maxHeartbeats 4000000 in
theorem lc_X10_fitting_26 {l : Launch} {g : xG} {d : Nat} {A : xA} {a : Nat} (h_a : sh 10 A a) (p1 : Int) {X : Int → Int → Int → Int → xN → Option (Int × xN)} (hX : ∀ (y2 : Int) (y3 : Int) (y4 : Int) (y5 : Int) (R : xN), Ev l g (d + 3) mX10_fitting 74 [xU, xI p1, xI y2, xI y3, xI y4, xU] [] A R (fun v : Int × xN => some (xI v.1)) (fun v => v.2) (X y2 y3 y4 y5 R)) (n : Nat) (y2 : Int) (y3 : Int) (y4 : Int) (y5 : Int) (R : xN) : Ev l g (d + 3) mX10_fitting 26 [xR a, xI p1, xI y2, xI y3, xI y4, xI y5] [] A R (fun v : Int × xN => some (xI v.1)) (fun v => v.2) (lp_X10_fitting_26 a p1 n y2 y3 y4 y5 R X) := by
  induction n generalizing y2 y3 y4 y5 R with
  | zero => exact ev_none
  | succ n ih =>
    rw [lp_X10_fitting_26]
    refine ev_st (pc' := 31) (L' := [xR a, xI p1, xI y2, xI y3, xI y4, xI y5]) (st' := [xI 5000, xI y5]) (fun _ _ _ k => e_iload dX10_fitting_26 (i := 5) (x := y5) rfl (e_sipush dX10_fitting_28 rfl (k4 rfl) k)) ?_
    refine ev_br2 (P := 5000 ≤ y5) (pct := 74) (pcf := 34) (st' := []) (fun _ _ _ kt kf => e_cge dX10_fitting_31 (tgt := 74) rfl kt kf) (fun h3 => ?_) (fun h3 => ?_)
    · refine ev_st (pc' := 74) (L' := [xU, xI p1, xI y2, xI y3, xI y4, xU]) (st' := []) (fun _ _ _ k => e_fg [0, 5] k) ?_
      exact hX y2 y3 y4 y5 R
    · refine ev_st (pc' := 37) (L' := [xR a, xI p1, xI y2, xI y3, xI y4, xI y5]) (st' := [xI y5, xR a]) (fun _ _ _ k => e_aload_n dX10_fitting_34 rfl (i := 0) (x := a) rfl (e_iload dX10_fitting_35 (i := 5) (x := y5) rfl k)) ?_
      refine ev_callV (As := [xI y5]) (st := []) (fun v4 => [xI (xz v4.1)]) dX10_fitting_37 mlX10_157 (kd10_0 h_a) rfl rfl rfl rfl rfl rfl (c_X10_layBy (d := d) h_a y5) (fun _ => xz01 _) (fun _ => rfl) (fun v4 => ?_)
      refine ev_br2 (P := v4.1 = true) (pct := 43) (pcf := 68) (st' := []) (fun _ _ _ kt kf => e_ifeqz dX10_fitting_40 (tgt := 68) rfl kt kf) (fun h5 => ?_) (fun h5 => ?_)
      · refine ev_st (pc' := 44) (L' := [xR a, xI p1, xI y2, xI y3, xI y4, xI y5]) (st' := [xR a]) (fun _ _ _ k => e_aload_n dX10_fitting_43 rfl (i := 0) (x := a) rfl k) ?_
        refine ev_callV (As := []) (st := []) (fun v6 => [xI (xz v6)]) dX10_fitting_44 mlX10_355 (kd10_0 h_a) rfl rfl rfl rfl rfl rfl (c_X10_isSeen (d := d) h_a) (fun _ => xz01 _) (fun _ => rfl) (fun v6 => ?_)
        refine ev_br2 (P := v6 = true) (pct := 50) (pcf := 68) (st' := []) (fun _ _ _ kt kf => e_ifeqz dX10_fitting_47 (tgt := 68) rfl kt kf) (fun h7 => ?_) (fun h7 => ?_)
        · refine ev_st (pc' := 51) (L' := [xR a, xI p1, xI y2, xI y3, xI y4, xI y5]) (st' := [xI y2]) (fun _ _ _ k => e_iload_n dX10_fitting_50 rfl (i := 2) (x := y2) rfl k) ?_
          refine ev_tern (P := y2 = 0) (a := y5) (b := y3) (pct := 54) (pcf := 59) (J := 60) (st' := []) (fun _ _ _ kt kf => e_ifne dX10_fitting_51 (tgt := 59) rfl kt kf) (fun _ _ _ k => e_iload dX10_fitting_54 (i := 5) (x := y5) rfl (e_goto dX10_fitting_56 (tgt := 60) rfl k)) (fun _ _ _ k => e_iload_n dX10_fitting_59 rfl (i := 3) (x := y3) rfl k) (fun t8 et8 => ?_)
          refine ev_st (pc' := 65) (L' := [xR a, xI p1, xI y2, xI t8, xI y5, xI y5]) (st' := []) (fun _ _ _ k => e_istore_n dX10_fitting_60 rfl (i := 3) rfl (L' := [xR a, xI p1, xI y2, xI t8, xI y4, xI y5]) rfl (e_iload dX10_fitting_61 (i := 5) (x := y5) rfl (e_istore dX10_fitting_63 (i := 4) rfl (L' := [xR a, xI p1, xI y2, xI t8, xI y5, xI y5]) rfl k))) ?_
          refine ev_letx (fun x9 ex9 => ?_)
          refine ev_st (pc' := 68) (L' := [xR a, xI p1, xI x9, xI t8, xI y5, xI y5]) (st' := []) (fun _ _ _ k => e_iinc dX10_fitting_65 (i := 2) rfl (x := y2) rfl (y := x9) ex9 (L' := [xR a, xI p1, xI x9, xI t8, xI y5, xI y5]) rfl k) ?_
          refine ev_letx (fun x10 ex10 => ?_)
          refine ev_st (pc' := 71) (L' := [xR a, xI p1, xI x9, xI t8, xI y5, xI x10]) (st' := []) (fun _ _ _ k => e_iinc dX10_fitting_68 (i := 5) rfl (x := y5) rfl (y := x10) ex10 (L' := [xR a, xI p1, xI x9, xI t8, xI y5, xI x10]) rfl k) ?_
          refine ev_st (pc' := 26) (L' := [xR a, xI p1, xI x9, xI t8, xI y5, xI x10]) (st' := []) (fun _ _ _ k => e_goto dX10_fitting_71 (tgt := 26) rfl k) ?_
          exact ih x9 t8 y5 x10 v4.2
        · refine ev_letx (fun x11 ex11 => ?_)
          refine ev_st (pc' := 71) (L' := [xR a, xI p1, xI y2, xI y3, xI y4, xI x11]) (st' := []) (fun _ _ _ k => e_iinc dX10_fitting_68 (i := 5) rfl (x := y5) rfl (y := x11) ex11 (L' := [xR a, xI p1, xI y2, xI y3, xI y4, xI x11]) rfl k) ?_
          refine ev_st (pc' := 26) (L' := [xR a, xI p1, xI y2, xI y3, xI y4, xI x11]) (st' := []) (fun _ _ _ k => e_goto dX10_fitting_71 (tgt := 26) rfl k) ?_
          exact ih y2 y3 y4 x11 v4.2
      · refine ev_letx (fun x12 ex12 => ?_)
        refine ev_st (pc' := 71) (L' := [xR a, xI p1, xI y2, xI y3, xI y4, xI x12]) (st' := []) (fun _ _ _ k => e_iinc dX10_fitting_68 (i := 5) rfl (x := y5) rfl (y := x12) ex12 (L' := [xR a, xI p1, xI y2, xI y3, xI y4, xI x12]) rfl k) ?_
        refine ev_st (pc' := 26) (L' := [xR a, xI p1, xI y2, xI y3, xI y4, xI x12]) (st' := []) (fun _ _ _ k => e_goto dX10_fitting_71 (tgt := 26) rfl k) ?_
        exact ih y2 y3 y4 x12 v4.2
set_option maxRecDepth 20000 in
set_option maxHeartbeats 4000000 in
theorem c_X10_fitting {l : Launch} {g : xG} {d : Nat} {A : xA} {R : xN} {a : Nat} (h_a : sh 10 A a) (i0 : Int) : Ev l g (d + 3) mX10_fitting 0 [xR a, xI i0, xU, xU, xU, xU] [] A R (fun v : Int × xN => some (xI v.1)) (fun v => v.2) (f_X10_fitting a i0 R) := by
  rw [f_X10_fitting]
  refine ev_st (pc' := 6) (L' := [xR a, xI i0, xU, xU, xU, xU]) (st' := [xL 2, xL 0, xL i0]) (fun _ _ _ k => e_iload_n dX10_fitting_0 rfl (i := 1) (x := i0) rfl (e_i2l dX10_fitting_1 (e_lconst dX10_fitting_2 (i := 0) rfl (k8 rfl) (e_ldc2 dX10_fitting_3 ckX10_329 (k8 rfl) k)))) ?_
  refine ev_callS (As := [xL i0, xL 0, xL 2]) (st := []) (fun v1 => [xI (xz v1)]) dX10_fitting_6 mlX10_101 rfl rfl rfl rfl rfl rfl (c_X10_in (d := d + 2) i0 0 2) (fun _ => xz01 _) (fun _ => rfl) (fun v1 => ?_)
  refine ev_br2 (P := v1 = true) (pct := 14) (pcf := 12) (st' := []) (fun _ _ _ kt kf => e_ifnez dX10_fitting_9 (tgt := 14) rfl kt kf) (fun h2 => ?_) (fun h2 => ?_)
  · refine ev_st (pc' := 26) (L' := [xR a, xI i0, xI 0, xI (-9), xI (-9), xI 0]) (st' := []) (fun _ _ _ k => e_iconst dX10_fitting_14 (k4 rfl) (e_istore_n dX10_fitting_15 rfl (i := 2) rfl (L' := [xR a, xI i0, xI 0, xU, xU, xU]) rfl (e_bipush dX10_fitting_16 rfl (k4 rfl) (e_istore_n dX10_fitting_18 rfl (i := 3) rfl (L' := [xR a, xI i0, xI 0, xI (-9), xU, xU]) rfl (e_bipush dX10_fitting_19 rfl (k4 rfl) (e_istore dX10_fitting_21 (i := 4) rfl (L' := [xR a, xI i0, xI 0, xI (-9), xI (-9), xU]) rfl (e_iconst dX10_fitting_23 (k4 rfl) (e_istore dX10_fitting_24 (i := 5) rfl (L' := [xR a, xI i0, xI 0, xI (-9), xI (-9), xI 0]) rfl k)))))))) ?_
    refine lc_X10_fitting_26 h_a i0 (fun z13 z14 z15 z16 R17 => ?_) 6000 0 (-9) (-9) 0 R
    refine ev_st (pc' := 75) (L' := [xU, xI i0, xI z13, xI z14, xI z15, xU]) (st' := [xI i0]) (fun _ _ _ k => e_iload_n dX10_fitting_74 rfl (i := 1) (x := i0) rfl k) ?_
    refine ev_br2 (P := i0 = 0) (pct := 78) (pcf := 82) (st' := []) (fun _ _ _ kt kf => e_ifne dX10_fitting_75 (tgt := 82) rfl kt kf) (fun h18 => ?_) (fun h18 => ?_)
    · exact ev_ret (e_iload_n dX10_fitting_78 rfl (i := 2) (x := z13) rfl (e_goto dX10_fitting_79 (tgt := 93) rfl (e_iret dX10_fitting_93)))
    · refine ev_st (pc' := 84) (L' := [xU, xI i0, xI z13, xI z14, xI z15, xU]) (st' := [xI 1, xI i0]) (fun _ _ _ k => e_iload_n dX10_fitting_82 rfl (i := 1) (x := i0) rfl (e_iconst dX10_fitting_83 (k4 rfl) k)) ?_
      refine ev_tern (P := i0 = 1) (a := z14) (b := z15) (pct := 87) (pcf := 91) (J := 93) (st' := []) (fun _ _ _ kt kf => e_cne dX10_fitting_84 (tgt := 91) rfl kt kf) (fun _ _ _ k => e_iload_n dX10_fitting_87 rfl (i := 3) (x := z14) rfl (e_goto dX10_fitting_88 (tgt := 93) rfl k)) (fun _ _ _ k => e_iload dX10_fitting_91 (i := 4) (x := z15) rfl k) (fun t19 et19 => ?_)
      exact ev_ret (e_iret dX10_fitting_93)
  · exact ev_ret (e_iconst dX10_fitting_12 (k4 rfl) (e_iret dX10_fitting_13))
def lp_X10_ownPages_2 (a : Nat) (R : xN) : Nat → Int → (Int → Option (Int)) → Option (Int)
  | 0, _, _ => none
  | n + 1, y1, X =>
    if (w4 (2 * (R a 9))) ≤ y1 then
    X y1
    else
    (f_X10_isItsOwn a y1 R).bind (fun v2 =>
    if v2 = true then
    xlet (w4 (y1 + 1)) (fun x4 =>
    lp_X10_ownPages_2 a R n x4 X)
    else
    X y1)
def f_X10_ownPages (a : Nat) (R : xN) : Option (Int) :=
  lp_X10_ownPages_2 a R 6000 0 (fun z5 =>
  some z5)
set_option maxRecDepth 20000 in
set_option maxHeartbeats 4000000 in
theorem lc_X10_ownPages_2 {l : Launch} {g : xG} {d : Nat} {A : xA} {a : Nat} (h_a : sh 10 A a) (R : xN) {X : Int → Option (Int)} (hX : ∀ (y1 : Int), Ev l g (d + 3) mX10_ownPages 26 [xU, xI y1] [] A R (fun v : Int => some (xI v)) (fun _ => R) (X y1)) (n : Nat) (y1 : Int) : Ev l g (d + 3) mX10_ownPages 2 [xR a, xI y1] [] A R (fun v : Int => some (xI v)) (fun _ => R) (lp_X10_ownPages_2 a R n y1 X) := by
  induction n generalizing y1 with
  | zero => exact ev_none
  | succ n ih =>
    rw [lp_X10_ownPages_2]
    refine ev_st (pc' := 9) (L' := [xR a, xI y1]) (st' := [xI (w4 (2 * (R a 9))), xI y1]) (fun _ _ _ k => e_iload_n dX10_ownPages_2 rfl (i := 1) (x := y1) rfl (e_iconst dX10_ownPages_3 (k4 rfl) (e_aload_n dX10_ownPages_4 rfl (i := 0) (x := a) rfl (e_geti dX10_ownPages_5 flX10_78 (kd10_0 h_a) (Or.inl rfl) (e_imul dX10_ownPages_8 k))))) ?_
    refine ev_br2 (P := (w4 (2 * (R a 9))) ≤ y1) (pct := 26) (pcf := 12) (st' := []) (fun _ _ _ kt kf => e_cge dX10_ownPages_9 (tgt := 26) rfl kt kf) (fun h1 => ?_) (fun h1 => ?_)
    · refine ev_st (pc' := 26) (L' := [xU, xI y1]) (st' := []) (fun _ _ _ k => e_fg [0] k) ?_
      exact hX y1
    · refine ev_st (pc' := 14) (L' := [xR a, xI y1]) (st' := [xI y1, xR a]) (fun _ _ _ k => e_aload_n dX10_ownPages_12 rfl (i := 0) (x := a) rfl (e_iload_n dX10_ownPages_13 rfl (i := 1) (x := y1) rfl k)) ?_
      refine ev_callV (As := [xI y1]) (st := []) (fun v2 => [xI (xz v2)]) dX10_ownPages_14 mlX10_323 (kd10_0 h_a) rfl rfl rfl rfl rfl rfl (c_X10_isItsOwn (d := d) h_a y1) (fun _ => xz01 _) (fun _ => rfl) (fun v2 => ?_)
      refine ev_br2 (P := v2 = true) (pct := 20) (pcf := 26) (st' := []) (fun _ _ _ kt kf => e_ifeqz dX10_ownPages_17 (tgt := 26) rfl kt kf) (fun h3 => ?_) (fun h3 => ?_)
      · refine ev_letx (fun x4 ex4 => ?_)
        refine ev_st (pc' := 23) (L' := [xR a, xI x4]) (st' := []) (fun _ _ _ k => e_iinc dX10_ownPages_20 (i := 1) rfl (x := y1) rfl (y := x4) ex4 (L' := [xR a, xI x4]) rfl k) ?_
        refine ev_st (pc' := 2) (L' := [xR a, xI x4]) (st' := []) (fun _ _ _ k => e_goto dX10_ownPages_23 (tgt := 2) rfl k) ?_
        exact ih x4
      · refine ev_st (pc' := 26) (L' := [xU, xI y1]) (st' := []) (fun _ _ _ k => e_fg [0] k) ?_
        exact hX y1
set_option maxRecDepth 20000 in
set_option maxHeartbeats 4000000 in
theorem c_X10_ownPages {l : Launch} {g : xG} {d : Nat} {A : xA} {R : xN} {a : Nat} (h_a : sh 10 A a)  : Ev l g (d + 3) mX10_ownPages 0 [xR a, xU] [] A R (fun v : Int => some (xI v)) (fun _ => R) (f_X10_ownPages a R) := by
  rw [f_X10_ownPages]
  refine ev_st (pc' := 2) (L' := [xR a, xI 0]) (st' := []) (fun _ _ _ k => e_iconst dX10_ownPages_0 (k4 rfl) (e_istore_n dX10_ownPages_1 rfl (i := 1) rfl (L' := [xR a, xI 0]) rfl k)) ?_
  refine lc_X10_ownPages_2 h_a R (fun z5 => ?_) 6000 0
  exact ev_ret (e_iload_n dX10_ownPages_26 rfl (i := 1) (x := z5) rfl (e_iret dX10_ownPages_27))
def f_X10_readsBy (a : Nat) (i0 : Int) (R : xN) : Option (Int × xN) :=
  (f_X10_layBy a i0 R).bind (fun v1 =>
  if v1.1 = true then
  (f_X10_ownPages a v1.2).bind (fun v3 =>
  some (v3, v1.2))
  else
  some ((-1), v1.2))
set_option maxRecDepth 20000 in
set_option maxHeartbeats 4000000 in
theorem c_X10_readsBy {l : Launch} {g : xG} {d : Nat} {A : xA} {R : xN} {a : Nat} (h_a : sh 10 A a) (i0 : Int) : Ev l g (d + 4) mX10_readsBy 0 [xR a, xI i0] [] A R (fun v : Int × xN => some (xI v.1)) (fun v => v.2) (f_X10_readsBy a i0 R) := by
  rw [f_X10_readsBy]
  refine ev_st (pc' := 2) (L' := [xR a, xI i0]) (st' := [xI i0, xR a]) (fun _ _ _ k => e_aload_n dX10_readsBy_0 rfl (i := 0) (x := a) rfl (e_iload_n dX10_readsBy_1 rfl (i := 1) (x := i0) rfl k)) ?_
  refine ev_callV (As := [xI i0]) (st := []) (fun v1 => [xI (xz v1.1)]) dX10_readsBy_2 mlX10_157 (kd10_0 h_a) rfl rfl rfl rfl rfl rfl (c_X10_layBy (d := d + 1) h_a i0) (fun _ => xz01 _) (fun _ => rfl) (fun v1 => ?_)
  refine ev_br2 (P := v1.1 = true) (pct := 8) (pcf := 15) (st' := []) (fun _ _ _ kt kf => e_ifeqz dX10_readsBy_5 (tgt := 15) rfl kt kf) (fun h2 => ?_) (fun h2 => ?_)
  · refine ev_st (pc' := 9) (L' := [xR a, xI i0]) (st' := [xR a]) (fun _ _ _ k => e_aload_n dX10_readsBy_8 rfl (i := 0) (x := a) rfl k) ?_
    refine ev_callV (As := []) (st := []) (fun v3 => [xI v3]) dX10_readsBy_9 mlX10_358 (kd10_0 h_a) rfl rfl rfl rfl rfl rfl (c_X10_ownPages (d := d) h_a) (fun _ => trivial) (fun _ => rfl) (fun v3 => ?_)
    exact ev_ret (e_goto dX10_readsBy_12 (tgt := 16) rfl (e_iret dX10_readsBy_16))
  · exact ev_ret (e_iconst dX10_readsBy_15 (k4 rfl) (e_iret dX10_readsBy_16))
def lp_X10_edgesToCut_16 (a : Nat) (p2 : Int) (R : xN) : Nat → Int → Int → (Int → Int → Option (Int)) → Option (Int)
  | 0, _, _, _ => none
  | n + 1, y1, y3, X =>
    if (R a 9) ≤ y3 then
    X y1 y3
    else
    (f_X10_edgeOf a p2 y3 R).bind (fun v4 =>
    if v4 < 0 then
    xlet (b4or y1 0) (fun x6 =>
    xlet (w4 (y3 + 1)) (fun x7 =>
    lp_X10_edgesToCut_16 a p2 R n x6 x7 X))
    else
    (f_X10_spineEdge a R).bind (fun v8 =>
    xlet (if v4 = v8 then 0 else (b4shl 1 v4)) (fun t9 =>
    xlet (b4or y1 t9) (fun x10 =>
    xlet (w4 (y3 + 1)) (fun x11 =>
    lp_X10_edgesToCut_16 a p2 R n x10 x11 X)))))
def lp_X10_edgesToCut_4 (a : Nat) (R : xN) : Nat → Int → Int → (Int → Int → Option (Int)) → Option (Int)
  | 0, _, _, _ => none
  | n + 1, y1, y2, X =>
    if (R a 9) ≤ y2 then
    X y1 y2
    else
    xlet (w4 (y2 + 1)) (fun x2 =>
    lp_X10_edgesToCut_16 a y2 R 6000 y1 x2 (fun z12 z13 =>
    xlet (w4 (y2 + 1)) (fun x14 =>
    lp_X10_edgesToCut_4 a R n z12 x14 X)))
def f_X10_edgesToCut (a : Nat) (R : xN) : Option (Int) :=
  lp_X10_edgesToCut_4 a R 6000 0 0 (fun z15 z16 =>
  some z15)
set_option maxRecDepth 20000 in
set_option maxHeartbeats 4000000 in
theorem lc_X10_edgesToCut_16 {l : Launch} {g : xG} {d : Nat} {A : xA} {a : Nat} (h_a : sh 10 A a) (p2 : Int) (R : xN) {X : Int → Int → Option (Int)} (hX : ∀ (y1 : Int) (y3 : Int), Ev l g (d + 1) mX10_edgesToCut 63 [xR a, xI y1, xI p2, xU, xU] [] A R (fun v : Int => some (xI v)) (fun _ => R) (X y1 y3)) (n : Nat) (y1 : Int) (y3 : Int) : Ev l g (d + 1) mX10_edgesToCut 16 [xR a, xI y1, xI p2, xI y3, xU] [] A R (fun v : Int => some (xI v)) (fun _ => R) (lp_X10_edgesToCut_16 a p2 R n y1 y3 X) := by
  induction n generalizing y1 y3 with
  | zero => exact ev_none
  | succ n ih =>
    rw [lp_X10_edgesToCut_16]
    refine ev_st (pc' := 21) (L' := [xR a, xI y1, xI p2, xI y3, xU]) (st' := [xI (R a 9), xI y3]) (fun _ _ _ k => e_iload_n dX10_edgesToCut_16 rfl (i := 3) (x := y3) rfl (e_aload_n dX10_edgesToCut_17 rfl (i := 0) (x := a) rfl (e_geti dX10_edgesToCut_18 flX10_78 (kd10_0 h_a) (Or.inl rfl) k))) ?_
    refine ev_br2 (P := (R a 9) ≤ y3) (pct := 63) (pcf := 24) (st' := []) (fun _ _ _ kt kf => e_cge dX10_edgesToCut_21 (tgt := 63) rfl kt kf) (fun h3 => ?_) (fun h3 => ?_)
    · refine ev_st (pc' := 63) (L' := [xR a, xI y1, xI p2, xU, xU]) (st' := []) (fun _ _ _ k => e_fg [3] k) ?_
      exact hX y1 y3
    · refine ev_st (pc' := 27) (L' := [xR a, xI y1, xI p2, xI y3, xU]) (st' := [xI y3, xI p2, xR a]) (fun _ _ _ k => e_aload_n dX10_edgesToCut_24 rfl (i := 0) (x := a) rfl (e_iload_n dX10_edgesToCut_25 rfl (i := 2) (x := p2) rfl (e_iload_n dX10_edgesToCut_26 rfl (i := 3) (x := y3) rfl k))) ?_
      refine ev_callV (As := [xI p2, xI y3]) (st := []) (fun v4 => [xI v4]) dX10_edgesToCut_27 mlX10_116 (kd10_0 h_a) rfl rfl rfl rfl rfl rfl (c_X10_edgeOf (d := d) h_a p2 y3) (fun _ => trivial) (fun _ => rfl) (fun v4 => ?_)
      refine ev_st (pc' := 35) (L' := [xR a, xI y1, xI p2, xI y3, xI v4]) (st' := [xI v4, xI y1]) (fun _ _ _ k => e_istore dX10_edgesToCut_30 (i := 4) rfl (L' := [xR a, xI y1, xI p2, xI y3, xI v4]) rfl (e_iload_n dX10_edgesToCut_32 rfl (i := 1) (x := y1) rfl (e_iload dX10_edgesToCut_33 (i := 4) (x := v4) rfl k))) ?_
      refine ev_br2 (P := v4 < 0) (pct := 54) (pcf := 38) (st' := [xI y1]) (fun _ _ _ kt kf => e_iflt dX10_edgesToCut_35 (tgt := 54) rfl kt kf) (fun h5 => ?_) (fun h5 => ?_)
      · refine ev_st (pc' := 56) (L' := [xR a, xI y1, xI p2, xI y3, xI v4]) (st' := [xI (b4or y1 0)]) (fun _ _ _ k => e_iconst dX10_edgesToCut_54 (k4 rfl) (e_ior dX10_edgesToCut_55 k)) ?_
        refine ev_leti (fun x6 ex6 => ?_)
        refine ev_st (pc' := 57) (L' := [xR a, xI x6, xI p2, xI y3, xI v4]) (st' := []) (fun _ _ _ k => e_istore_n dX10_edgesToCut_56 rfl (i := 1) rfl (L' := [xR a, xI x6, xI p2, xI y3, xI v4]) rfl k) ?_
        refine ev_letx (fun x7 ex7 => ?_)
        refine ev_st (pc' := 60) (L' := [xR a, xI x6, xI p2, xI x7, xI v4]) (st' := []) (fun _ _ _ k => e_iinc dX10_edgesToCut_57 (i := 3) rfl (x := y3) rfl (y := x7) ex7 (L' := [xR a, xI x6, xI p2, xI x7, xI v4]) rfl k) ?_
        refine ev_st (pc' := 16) (L' := [xR a, xI x6, xI p2, xI x7, xU]) (st' := []) (fun _ _ _ k => e_goto dX10_edgesToCut_60 (tgt := 16) rfl (e_fg [4] k)) ?_
        exact ih x6 x7
      · refine ev_st (pc' := 41) (L' := [xR a, xI y1, xI p2, xI y3, xI v4]) (st' := [xR a, xI v4, xI y1]) (fun _ _ _ k => e_iload dX10_edgesToCut_38 (i := 4) (x := v4) rfl (e_aload_n dX10_edgesToCut_40 rfl (i := 0) (x := a) rfl k)) ?_
        refine ev_callV (As := []) (st := [xI v4, xI y1]) (fun v8 => [xI v8, xI v4, xI y1]) dX10_edgesToCut_41 mlX10_124 (kd10_0 h_a) rfl rfl rfl rfl rfl rfl (c_X10_spineEdge (d := d) h_a) (fun _ => trivial) (fun _ => rfl) (fun v8 => ?_)
        refine ev_tern (P := v4 = v8) (a := 0) (b := (b4shl 1 v4)) (pct := 54) (pcf := 47) (J := 55) (st' := [xI y1]) (fun _ _ _ kt kf => e_ceq dX10_edgesToCut_44 (tgt := 54) rfl kt kf) (fun _ _ _ k => e_iconst dX10_edgesToCut_54 (k4 rfl) k) (fun _ _ _ k => e_iconst dX10_edgesToCut_47 (k4 rfl) (e_iload dX10_edgesToCut_48 (i := 4) (x := v4) rfl (e_ishl dX10_edgesToCut_50 (e_goto dX10_edgesToCut_51 (tgt := 55) rfl k)))) (fun t9 et9 => ?_)
        refine ev_st (pc' := 56) (L' := [xR a, xI y1, xI p2, xI y3, xI v4]) (st' := [xI (b4or y1 t9)]) (fun _ _ _ k => e_ior dX10_edgesToCut_55 k) ?_
        refine ev_leti (fun x10 ex10 => ?_)
        refine ev_st (pc' := 57) (L' := [xR a, xI x10, xI p2, xI y3, xI v4]) (st' := []) (fun _ _ _ k => e_istore_n dX10_edgesToCut_56 rfl (i := 1) rfl (L' := [xR a, xI x10, xI p2, xI y3, xI v4]) rfl k) ?_
        refine ev_letx (fun x11 ex11 => ?_)
        refine ev_st (pc' := 60) (L' := [xR a, xI x10, xI p2, xI x11, xI v4]) (st' := []) (fun _ _ _ k => e_iinc dX10_edgesToCut_57 (i := 3) rfl (x := y3) rfl (y := x11) ex11 (L' := [xR a, xI x10, xI p2, xI x11, xI v4]) rfl k) ?_
        refine ev_st (pc' := 16) (L' := [xR a, xI x10, xI p2, xI x11, xU]) (st' := []) (fun _ _ _ k => e_goto dX10_edgesToCut_60 (tgt := 16) rfl (e_fg [4] k)) ?_
        exact ih x10 x11
set_option maxRecDepth 20000 in
set_option maxHeartbeats 4000000 in
theorem lc_X10_edgesToCut_4 {l : Launch} {g : xG} {d : Nat} {A : xA} {a : Nat} (h_a : sh 10 A a) (R : xN) {X : Int → Int → Option (Int)} (hX : ∀ (y1 : Int) (y2 : Int), Ev l g (d + 1) mX10_edgesToCut 69 [xU, xI y1, xU, xU, xU] [] A R (fun v : Int => some (xI v)) (fun _ => R) (X y1 y2)) (n : Nat) (y1 : Int) (y2 : Int) : Ev l g (d + 1) mX10_edgesToCut 4 [xR a, xI y1, xI y2, xU, xU] [] A R (fun v : Int => some (xI v)) (fun _ => R) (lp_X10_edgesToCut_4 a R n y1 y2 X) := by
  induction n generalizing y1 y2 with
  | zero => exact ev_none
  | succ n ih =>
    rw [lp_X10_edgesToCut_4]
    refine ev_st (pc' := 9) (L' := [xR a, xI y1, xI y2, xU, xU]) (st' := [xI (R a 9), xI y2]) (fun _ _ _ k => e_iload_n dX10_edgesToCut_4 rfl (i := 2) (x := y2) rfl (e_aload_n dX10_edgesToCut_5 rfl (i := 0) (x := a) rfl (e_geti dX10_edgesToCut_6 flX10_78 (kd10_0 h_a) (Or.inl rfl) k))) ?_
    refine ev_br2 (P := (R a 9) ≤ y2) (pct := 69) (pcf := 12) (st' := []) (fun _ _ _ kt kf => e_cge dX10_edgesToCut_9 (tgt := 69) rfl kt kf) (fun h1 => ?_) (fun h1 => ?_)
    · refine ev_st (pc' := 69) (L' := [xU, xI y1, xU, xU, xU]) (st' := []) (fun _ _ _ k => e_fg [0, 2] k) ?_
      exact hX y1 y2
    · refine ev_st (pc' := 15) (L' := [xR a, xI y1, xI y2, xU, xU]) (st' := [xI (w4 (y2 + 1))]) (fun _ _ _ k => e_iload_n dX10_edgesToCut_12 rfl (i := 2) (x := y2) rfl (e_iconst dX10_edgesToCut_13 (k4 rfl) (e_iadd dX10_edgesToCut_14 k))) ?_
      refine ev_leti (fun x2 ex2 => ?_)
      refine ev_st (pc' := 16) (L' := [xR a, xI y1, xI y2, xI x2, xU]) (st' := []) (fun _ _ _ k => e_istore_n dX10_edgesToCut_15 rfl (i := 3) rfl (L' := [xR a, xI y1, xI y2, xI x2, xU]) rfl k) ?_
      refine lc_X10_edgesToCut_16 h_a y2 R (fun z12 z13 => ?_) 6000 y1 x2
      refine ev_letx (fun x14 ex14 => ?_)
      refine ev_st (pc' := 66) (L' := [xR a, xI z12, xI x14, xU, xU]) (st' := []) (fun _ _ _ k => e_iinc dX10_edgesToCut_63 (i := 2) rfl (x := y2) rfl (y := x14) ex14 (L' := [xR a, xI z12, xI x14, xU, xU]) rfl k) ?_
      refine ev_st (pc' := 4) (L' := [xR a, xI z12, xI x14, xU, xU]) (st' := []) (fun _ _ _ k => e_goto dX10_edgesToCut_66 (tgt := 4) rfl k) ?_
      exact ih z12 x14
set_option maxRecDepth 20000 in
set_option maxHeartbeats 4000000 in
theorem c_X10_edgesToCut {l : Launch} {g : xG} {d : Nat} {A : xA} {R : xN} {a : Nat} (h_a : sh 10 A a)  : Ev l g (d + 1) mX10_edgesToCut 0 [xR a, xU, xU, xU, xU] [] A R (fun v : Int => some (xI v)) (fun _ => R) (f_X10_edgesToCut a R) := by
  rw [f_X10_edgesToCut]
  refine ev_st (pc' := 4) (L' := [xR a, xI 0, xI 0, xU, xU]) (st' := []) (fun _ _ _ k => e_iconst dX10_edgesToCut_0 (k4 rfl) (e_istore_n dX10_edgesToCut_1 rfl (i := 1) rfl (L' := [xR a, xI 0, xU, xU, xU]) rfl (e_iconst dX10_edgesToCut_2 (k4 rfl) (e_istore_n dX10_edgesToCut_3 rfl (i := 2) rfl (L' := [xR a, xI 0, xI 0, xU, xU]) rfl k)))) ?_
  refine lc_X10_edgesToCut_4 h_a R (fun z15 z16 => ?_) 6000 0 0
  exact ev_ret (e_iload_n dX10_edgesToCut_69 rfl (i := 1) (x := z15) rfl (e_iret dX10_edgesToCut_70))
def f_X10_cutsFor (a : Nat) (i0 : Int) (R : xN) : Option (Int × xN) :=
  (f_X10_layBy a i0 R).bind (fun v1 =>
  if v1.1 = true then
  (f_X10_edgesToCut a v1.2).bind (fun v3 =>
  some (v3, v1.2))
  else
  some ((-1), v1.2))
set_option maxRecDepth 20000 in
set_option maxHeartbeats 4000000 in
theorem c_X10_cutsFor {l : Launch} {g : xG} {d : Nat} {A : xA} {R : xN} {a : Nat} (h_a : sh 10 A a) (i0 : Int) : Ev l g (d + 3) mX10_cutsFor 0 [xR a, xI i0] [] A R (fun v : Int × xN => some (xI v.1)) (fun v => v.2) (f_X10_cutsFor a i0 R) := by
  rw [f_X10_cutsFor]
  refine ev_st (pc' := 2) (L' := [xR a, xI i0]) (st' := [xI i0, xR a]) (fun _ _ _ k => e_aload_n dX10_cutsFor_0 rfl (i := 0) (x := a) rfl (e_iload_n dX10_cutsFor_1 rfl (i := 1) (x := i0) rfl k)) ?_
  refine ev_callV (As := [xI i0]) (st := []) (fun v1 => [xI (xz v1.1)]) dX10_cutsFor_2 mlX10_157 (kd10_0 h_a) rfl rfl rfl rfl rfl rfl (c_X10_layBy (d := d) h_a i0) (fun _ => xz01 _) (fun _ => rfl) (fun v1 => ?_)
  refine ev_br2 (P := v1.1 = true) (pct := 8) (pcf := 15) (st' := []) (fun _ _ _ kt kf => e_ifeqz dX10_cutsFor_5 (tgt := 15) rfl kt kf) (fun h2 => ?_) (fun h2 => ?_)
  · refine ev_st (pc' := 9) (L' := [xR a, xI i0]) (st' := [xR a]) (fun _ _ _ k => e_aload_n dX10_cutsFor_8 rfl (i := 0) (x := a) rfl k) ?_
    refine ev_callV (As := []) (st := []) (fun v3 => [xI v3]) dX10_cutsFor_9 mlX10_361 (kd10_0 h_a) rfl rfl rfl rfl rfl rfl (c_X10_edgesToCut (d := d + 1) h_a) (fun _ => trivial) (fun _ => rfl) (fun v3 => ?_)
    exact ev_ret (e_goto dX10_cutsFor_12 (tgt := 16) rfl (e_iret dX10_cutsFor_16))
  · exact ev_ret (e_iconst dX10_cutsFor_15 (k4 rfl) (e_iret dX10_cutsFor_16))
def lp_X10_best_24 (a : Nat) (p1 : Int) : Nat → Int → Int → Int → Int → xN → (Int → Int → Int → Int → xN → Option (Int × xN)) → Option (Int × xN)
  | 0, _, _, _, _, _, _ => none
  | n + 1, y2, y3, y4, y5, R, X =>
    if 5000 ≤ y5 then
    X y2 y3 y4 y5 R
    else
    (f_X10_layBy a y5 R).bind (fun v4 =>
    if v4.1 = true then
    (f_X10_edgesToCut a v4.2).bind (fun v6 =>
    (f_X10_ones v6 v4.2).bind (fun v7 =>
    (f_X10_ownPages a v4.2).bind (fun v8 =>
    if y2 < 0 then
    xlet (w4 (y5 + 1)) (fun x10 =>
    lp_X10_best_24 a p1 n y5 v7 v8 x10 v4.2 X)
    else
    if v7 < y3 then
    xlet (w4 (y5 + 1)) (fun x12 =>
    lp_X10_best_24 a p1 n y5 v7 v8 x12 v4.2 X)
    else
    if v7 = y3 then
    if v8 ≤ y4 then
    xlet (w4 (y5 + 1)) (fun x15 =>
    lp_X10_best_24 a p1 n y2 y3 y4 x15 v4.2 X)
    else
    xlet (w4 (y5 + 1)) (fun x16 =>
    lp_X10_best_24 a p1 n y5 v7 v8 x16 v4.2 X)
    else
    xlet (w4 (y5 + 1)) (fun x17 =>
    lp_X10_best_24 a p1 n y2 y3 y4 x17 v4.2 X))))
    else
    xlet (w4 (y5 + 1)) (fun x18 =>
    lp_X10_best_24 a p1 n y2 y3 y4 x18 v4.2 X))
def f_X10_best (a : Nat) (i0 : Int) (R : xN) : Option (Int × xN) :=
  (f_X10_in i0 0 2 R).bind (fun v1 =>
  if v1 = true then
  lp_X10_best_24 a i0 6000 (-1) 0 0 0 R (fun z19 z20 z21 z22 R23 =>
  if i0 = 0 then
  some (z19, R23)
  else
  xlet (if i0 = 1 then z20 else z21) (fun t25 =>
  some (t25, R23)))
  else
  some ((-1), R))
set_option maxRecDepth 20000 in
set_option maxHeartbeats 4000000 in
theorem lc_X10_best_24 {l : Launch} {g : xG} {d : Nat} {A : xA} {a : Nat} (h_a : sh 10 A a) (p1 : Int) {X : Int → Int → Int → Int → xN → Option (Int × xN)} (hX : ∀ (y2 : Int) (y3 : Int) (y4 : Int) (y5 : Int) (R : xN), Ev l g (d + 4) mX10_best 130 [xU, xI p1, xI y2, xI y3, xI y4, xU, xU, xU, xU] [] A R (fun v : Int × xN => some (xI v.1)) (fun v => v.2) (X y2 y3 y4 y5 R)) (n : Nat) (y2 : Int) (y3 : Int) (y4 : Int) (y5 : Int) (R : xN) : Ev l g (d + 4) mX10_best 24 [xR a, xI p1, xI y2, xI y3, xI y4, xI y5, xU, xU, xU] [] A R (fun v : Int × xN => some (xI v.1)) (fun v => v.2) (lp_X10_best_24 a p1 n y2 y3 y4 y5 R X) := by
  induction n generalizing y2 y3 y4 y5 R with
  | zero => exact ev_none
  | succ n ih =>
    rw [lp_X10_best_24]
    refine ev_st (pc' := 29) (L' := [xR a, xI p1, xI y2, xI y3, xI y4, xI y5, xU, xU, xU]) (st' := [xI 5000, xI y5]) (fun _ _ _ k => e_iload dX10_best_24 (i := 5) (x := y5) rfl (e_sipush dX10_best_26 rfl (k4 rfl) k)) ?_
    refine ev_br2 (P := 5000 ≤ y5) (pct := 130) (pcf := 32) (st' := []) (fun _ _ _ kt kf => e_cge dX10_best_29 (tgt := 130) rfl kt kf) (fun h3 => ?_) (fun h3 => ?_)
    · refine ev_st (pc' := 130) (L' := [xU, xI p1, xI y2, xI y3, xI y4, xU, xU, xU, xU]) (st' := []) (fun _ _ _ k => e_fg [0, 5] k) ?_
      exact hX y2 y3 y4 y5 R
    · refine ev_st (pc' := 35) (L' := [xR a, xI p1, xI y2, xI y3, xI y4, xI y5, xU, xU, xU]) (st' := [xI y5, xR a]) (fun _ _ _ k => e_aload_n dX10_best_32 rfl (i := 0) (x := a) rfl (e_iload dX10_best_33 (i := 5) (x := y5) rfl k)) ?_
      refine ev_callV (As := [xI y5]) (st := []) (fun v4 => [xI (xz v4.1)]) dX10_best_35 mlX10_157 (kd10_0 h_a) rfl rfl rfl rfl rfl rfl (c_X10_layBy (d := d + 1) h_a y5) (fun _ => xz01 _) (fun _ => rfl) (fun v4 => ?_)
      refine ev_br2 (P := v4.1 = true) (pct := 41) (pcf := 124) (st' := []) (fun _ _ _ kt kf => e_ifeqz dX10_best_38 (tgt := 124) rfl kt kf) (fun h5 => ?_) (fun h5 => ?_)
      · refine ev_st (pc' := 42) (L' := [xR a, xI p1, xI y2, xI y3, xI y4, xI y5, xU, xU, xU]) (st' := [xR a]) (fun _ _ _ k => e_aload_n dX10_best_41 rfl (i := 0) (x := a) rfl k) ?_
        refine ev_callV (As := []) (st := []) (fun v6 => [xI v6]) dX10_best_42 mlX10_361 (kd10_0 h_a) rfl rfl rfl rfl rfl rfl (c_X10_edgesToCut (d := d + 2) h_a) (fun _ => trivial) (fun _ => rfl) (fun v6 => ?_)
        refine ev_callS (As := [xI v6]) (st := []) (fun v7 => [xI v7]) dX10_best_45 mlX10_170 rfl rfl rfl rfl rfl rfl (c_X10_ones (d := d + 3) v6) (fun _ => trivial) (fun _ => rfl) (fun v7 => ?_)
        refine ev_st (pc' := 51) (L' := [xR a, xI p1, xI y2, xI y3, xI y4, xI y5, xI v7, xU, xU]) (st' := [xR a]) (fun _ _ _ k => e_istore dX10_best_48 (i := 6) rfl (L' := [xR a, xI p1, xI y2, xI y3, xI y4, xI y5, xI v7, xU, xU]) rfl (e_aload_n dX10_best_50 rfl (i := 0) (x := a) rfl k)) ?_
        refine ev_callV (As := []) (st := []) (fun v8 => [xI v8]) dX10_best_51 mlX10_358 (kd10_0 h_a) rfl rfl rfl rfl rfl rfl (c_X10_ownPages (d := d) h_a) (fun _ => trivial) (fun _ => rfl) (fun v8 => ?_)
        refine ev_st (pc' := 57) (L' := [xR a, xI p1, xI y2, xI y3, xI y4, xI y5, xI v7, xI v8, xU]) (st' := [xI y2]) (fun _ _ _ k => e_istore dX10_best_54 (i := 7) rfl (L' := [xR a, xI p1, xI y2, xI y3, xI y4, xI y5, xI v7, xI v8, xU]) rfl (e_iload_n dX10_best_56 rfl (i := 2) (x := y2) rfl k)) ?_
        refine ev_br2 (P := y2 < 0) (pct := 79) (pcf := 60) (st' := []) (fun _ _ _ kt kf => e_iflt dX10_best_57 (tgt := 79) rfl kt kf) (fun h9 => ?_) (fun h9 => ?_)
        · refine ev_st (pc' := 91) (L' := [xR a, xI p1, xI y2, xI y3, xI y4, xI y5, xI v7, xI v8, xI 1]) (st' := []) (fun _ _ _ k => e_iconst dX10_best_79 (k4 rfl) (e_goto dX10_best_80 (tgt := 84) rfl (e_istore dX10_best_84 (i := 8) rfl (L' := [xR a, xI p1, xI y2, xI y3, xI y4, xI y5, xI v7, xI v8, xI 1]) rfl (e_iload dX10_best_86 (i := 8) (x := 1) rfl (e_ifeqF dX10_best_88 (tgt := 96) rfl (by decide) k))))) ?_
          refine ev_st (pc' := 103) (L' := [xR a, xI p1, xI y5, xI y3, xI y4, xI y5, xI v7, xI v8, xI 1]) (st' := []) (fun _ _ _ k => e_iload dX10_best_91 (i := 5) (x := y5) rfl (e_goto dX10_best_93 (tgt := 97) rfl (e_istore_n dX10_best_97 rfl (i := 2) rfl (L' := [xR a, xI p1, xI y5, xI y3, xI y4, xI y5, xI v7, xI v8, xI 1]) rfl (e_iload dX10_best_98 (i := 8) (x := 1) rfl (e_ifeqF dX10_best_100 (tgt := 108) rfl (by decide) k))))) ?_
          refine ev_st (pc' := 115) (L' := [xR a, xI p1, xI y5, xI v7, xI y4, xI y5, xI v7, xI v8, xI 1]) (st' := []) (fun _ _ _ k => e_iload dX10_best_103 (i := 6) (x := v7) rfl (e_goto dX10_best_105 (tgt := 109) rfl (e_istore_n dX10_best_109 rfl (i := 3) rfl (L' := [xR a, xI p1, xI y5, xI v7, xI y4, xI y5, xI v7, xI v8, xI 1]) rfl (e_iload dX10_best_110 (i := 8) (x := 1) rfl (e_ifeqF dX10_best_112 (tgt := 120) rfl (by decide) k))))) ?_
          refine ev_st (pc' := 124) (L' := [xR a, xI p1, xI y5, xI v7, xI v8, xI y5, xI v7, xI v8, xI 1]) (st' := []) (fun _ _ _ k => e_iload dX10_best_115 (i := 7) (x := v8) rfl (e_goto dX10_best_117 (tgt := 122) rfl (e_istore dX10_best_122 (i := 4) rfl (L' := [xR a, xI p1, xI y5, xI v7, xI v8, xI y5, xI v7, xI v8, xI 1]) rfl k))) ?_
          refine ev_letx (fun x10 ex10 => ?_)
          refine ev_st (pc' := 127) (L' := [xR a, xI p1, xI y5, xI v7, xI v8, xI x10, xI v7, xI v8, xI 1]) (st' := []) (fun _ _ _ k => e_iinc dX10_best_124 (i := 5) rfl (x := y5) rfl (y := x10) ex10 (L' := [xR a, xI p1, xI y5, xI v7, xI v8, xI x10, xI v7, xI v8, xI 1]) rfl k) ?_
          refine ev_st (pc' := 24) (L' := [xR a, xI p1, xI y5, xI v7, xI v8, xI x10, xU, xU, xU]) (st' := []) (fun _ _ _ k => e_goto dX10_best_127 (tgt := 24) rfl (e_fg [6, 7, 8] k)) ?_
          exact ih y5 v7 v8 x10 v4.2
        · refine ev_st (pc' := 63) (L' := [xR a, xI p1, xI y2, xI y3, xI y4, xI y5, xI v7, xI v8, xU]) (st' := [xI y3, xI v7]) (fun _ _ _ k => e_iload dX10_best_60 (i := 6) (x := v7) rfl (e_iload_n dX10_best_62 rfl (i := 3) (x := y3) rfl k)) ?_
          refine ev_br2 (P := v7 < y3) (pct := 79) (pcf := 66) (st' := []) (fun _ _ _ kt kf => e_clt dX10_best_63 (tgt := 79) rfl kt kf) (fun h11 => ?_) (fun h11 => ?_)
          · refine ev_st (pc' := 91) (L' := [xR a, xI p1, xI y2, xI y3, xI y4, xI y5, xI v7, xI v8, xI 1]) (st' := []) (fun _ _ _ k => e_iconst dX10_best_79 (k4 rfl) (e_goto dX10_best_80 (tgt := 84) rfl (e_istore dX10_best_84 (i := 8) rfl (L' := [xR a, xI p1, xI y2, xI y3, xI y4, xI y5, xI v7, xI v8, xI 1]) rfl (e_iload dX10_best_86 (i := 8) (x := 1) rfl (e_ifeqF dX10_best_88 (tgt := 96) rfl (by decide) k))))) ?_
            refine ev_st (pc' := 103) (L' := [xR a, xI p1, xI y5, xI y3, xI y4, xI y5, xI v7, xI v8, xI 1]) (st' := []) (fun _ _ _ k => e_iload dX10_best_91 (i := 5) (x := y5) rfl (e_goto dX10_best_93 (tgt := 97) rfl (e_istore_n dX10_best_97 rfl (i := 2) rfl (L' := [xR a, xI p1, xI y5, xI y3, xI y4, xI y5, xI v7, xI v8, xI 1]) rfl (e_iload dX10_best_98 (i := 8) (x := 1) rfl (e_ifeqF dX10_best_100 (tgt := 108) rfl (by decide) k))))) ?_
            refine ev_st (pc' := 115) (L' := [xR a, xI p1, xI y5, xI v7, xI y4, xI y5, xI v7, xI v8, xI 1]) (st' := []) (fun _ _ _ k => e_iload dX10_best_103 (i := 6) (x := v7) rfl (e_goto dX10_best_105 (tgt := 109) rfl (e_istore_n dX10_best_109 rfl (i := 3) rfl (L' := [xR a, xI p1, xI y5, xI v7, xI y4, xI y5, xI v7, xI v8, xI 1]) rfl (e_iload dX10_best_110 (i := 8) (x := 1) rfl (e_ifeqF dX10_best_112 (tgt := 120) rfl (by decide) k))))) ?_
            refine ev_st (pc' := 124) (L' := [xR a, xI p1, xI y5, xI v7, xI v8, xI y5, xI v7, xI v8, xI 1]) (st' := []) (fun _ _ _ k => e_iload dX10_best_115 (i := 7) (x := v8) rfl (e_goto dX10_best_117 (tgt := 122) rfl (e_istore dX10_best_122 (i := 4) rfl (L' := [xR a, xI p1, xI y5, xI v7, xI v8, xI y5, xI v7, xI v8, xI 1]) rfl k))) ?_
            refine ev_letx (fun x12 ex12 => ?_)
            refine ev_st (pc' := 127) (L' := [xR a, xI p1, xI y5, xI v7, xI v8, xI x12, xI v7, xI v8, xI 1]) (st' := []) (fun _ _ _ k => e_iinc dX10_best_124 (i := 5) rfl (x := y5) rfl (y := x12) ex12 (L' := [xR a, xI p1, xI y5, xI v7, xI v8, xI x12, xI v7, xI v8, xI 1]) rfl k) ?_
            refine ev_st (pc' := 24) (L' := [xR a, xI p1, xI y5, xI v7, xI v8, xI x12, xU, xU, xU]) (st' := []) (fun _ _ _ k => e_goto dX10_best_127 (tgt := 24) rfl (e_fg [6, 7, 8] k)) ?_
            exact ih y5 v7 v8 x12 v4.2
          · refine ev_st (pc' := 69) (L' := [xR a, xI p1, xI y2, xI y3, xI y4, xI y5, xI v7, xI v8, xU]) (st' := [xI y3, xI v7]) (fun _ _ _ k => e_iload dX10_best_66 (i := 6) (x := v7) rfl (e_iload_n dX10_best_68 rfl (i := 3) (x := y3) rfl k)) ?_
            refine ev_br2 (P := v7 = y3) (pct := 72) (pcf := 83) (st' := []) (fun _ _ _ kt kf => e_cne dX10_best_69 (tgt := 83) rfl kt kf) (fun h13 => ?_) (fun h13 => ?_)
            · refine ev_st (pc' := 76) (L' := [xR a, xI p1, xI y2, xI y3, xI y4, xI y5, xI v7, xI v8, xU]) (st' := [xI y4, xI v8]) (fun _ _ _ k => e_iload dX10_best_72 (i := 7) (x := v8) rfl (e_iload dX10_best_74 (i := 4) (x := y4) rfl k)) ?_
              refine ev_br2 (P := v8 ≤ y4) (pct := 83) (pcf := 79) (st' := []) (fun _ _ _ kt kf => e_cle dX10_best_76 (tgt := 83) rfl kt kf) (fun h14 => ?_) (fun h14 => ?_)
              · refine ev_st (pc' := 96) (L' := [xR a, xI p1, xI y2, xI y3, xI y4, xI y5, xI v7, xI v8, xI 0]) (st' := []) (fun _ _ _ k => e_iconst dX10_best_83 (k4 rfl) (e_istore dX10_best_84 (i := 8) rfl (L' := [xR a, xI p1, xI y2, xI y3, xI y4, xI y5, xI v7, xI v8, xI 0]) rfl (e_iload dX10_best_86 (i := 8) (x := 0) rfl (e_ifeqT dX10_best_88 (tgt := 96) rfl (by decide) k)))) ?_
                refine ev_st (pc' := 108) (L' := [xR a, xI p1, xI y2, xI y3, xI y4, xI y5, xI v7, xI v8, xI 0]) (st' := []) (fun _ _ _ k => e_iload_n dX10_best_96 rfl (i := 2) (x := y2) rfl (e_istore_n dX10_best_97 rfl (i := 2) rfl (L' := [xR a, xI p1, xI y2, xI y3, xI y4, xI y5, xI v7, xI v8, xI 0]) rfl (e_iload dX10_best_98 (i := 8) (x := 0) rfl (e_ifeqT dX10_best_100 (tgt := 108) rfl (by decide) k)))) ?_
                refine ev_st (pc' := 120) (L' := [xR a, xI p1, xI y2, xI y3, xI y4, xI y5, xI v7, xI v8, xI 0]) (st' := []) (fun _ _ _ k => e_iload_n dX10_best_108 rfl (i := 3) (x := y3) rfl (e_istore_n dX10_best_109 rfl (i := 3) rfl (L' := [xR a, xI p1, xI y2, xI y3, xI y4, xI y5, xI v7, xI v8, xI 0]) rfl (e_iload dX10_best_110 (i := 8) (x := 0) rfl (e_ifeqT dX10_best_112 (tgt := 120) rfl (by decide) k)))) ?_
                refine ev_st (pc' := 124) (L' := [xR a, xI p1, xI y2, xI y3, xI y4, xI y5, xI v7, xI v8, xI 0]) (st' := []) (fun _ _ _ k => e_iload dX10_best_120 (i := 4) (x := y4) rfl (e_istore dX10_best_122 (i := 4) rfl (L' := [xR a, xI p1, xI y2, xI y3, xI y4, xI y5, xI v7, xI v8, xI 0]) rfl k)) ?_
                refine ev_letx (fun x15 ex15 => ?_)
                refine ev_st (pc' := 127) (L' := [xR a, xI p1, xI y2, xI y3, xI y4, xI x15, xI v7, xI v8, xI 0]) (st' := []) (fun _ _ _ k => e_iinc dX10_best_124 (i := 5) rfl (x := y5) rfl (y := x15) ex15 (L' := [xR a, xI p1, xI y2, xI y3, xI y4, xI x15, xI v7, xI v8, xI 0]) rfl k) ?_
                refine ev_st (pc' := 24) (L' := [xR a, xI p1, xI y2, xI y3, xI y4, xI x15, xU, xU, xU]) (st' := []) (fun _ _ _ k => e_goto dX10_best_127 (tgt := 24) rfl (e_fg [6, 7, 8] k)) ?_
                exact ih y2 y3 y4 x15 v4.2
              · refine ev_st (pc' := 91) (L' := [xR a, xI p1, xI y2, xI y3, xI y4, xI y5, xI v7, xI v8, xI 1]) (st' := []) (fun _ _ _ k => e_iconst dX10_best_79 (k4 rfl) (e_goto dX10_best_80 (tgt := 84) rfl (e_istore dX10_best_84 (i := 8) rfl (L' := [xR a, xI p1, xI y2, xI y3, xI y4, xI y5, xI v7, xI v8, xI 1]) rfl (e_iload dX10_best_86 (i := 8) (x := 1) rfl (e_ifeqF dX10_best_88 (tgt := 96) rfl (by decide) k))))) ?_
                refine ev_st (pc' := 103) (L' := [xR a, xI p1, xI y5, xI y3, xI y4, xI y5, xI v7, xI v8, xI 1]) (st' := []) (fun _ _ _ k => e_iload dX10_best_91 (i := 5) (x := y5) rfl (e_goto dX10_best_93 (tgt := 97) rfl (e_istore_n dX10_best_97 rfl (i := 2) rfl (L' := [xR a, xI p1, xI y5, xI y3, xI y4, xI y5, xI v7, xI v8, xI 1]) rfl (e_iload dX10_best_98 (i := 8) (x := 1) rfl (e_ifeqF dX10_best_100 (tgt := 108) rfl (by decide) k))))) ?_
                refine ev_st (pc' := 115) (L' := [xR a, xI p1, xI y5, xI v7, xI y4, xI y5, xI v7, xI v8, xI 1]) (st' := []) (fun _ _ _ k => e_iload dX10_best_103 (i := 6) (x := v7) rfl (e_goto dX10_best_105 (tgt := 109) rfl (e_istore_n dX10_best_109 rfl (i := 3) rfl (L' := [xR a, xI p1, xI y5, xI v7, xI y4, xI y5, xI v7, xI v8, xI 1]) rfl (e_iload dX10_best_110 (i := 8) (x := 1) rfl (e_ifeqF dX10_best_112 (tgt := 120) rfl (by decide) k))))) ?_
                refine ev_st (pc' := 124) (L' := [xR a, xI p1, xI y5, xI v7, xI v8, xI y5, xI v7, xI v8, xI 1]) (st' := []) (fun _ _ _ k => e_iload dX10_best_115 (i := 7) (x := v8) rfl (e_goto dX10_best_117 (tgt := 122) rfl (e_istore dX10_best_122 (i := 4) rfl (L' := [xR a, xI p1, xI y5, xI v7, xI v8, xI y5, xI v7, xI v8, xI 1]) rfl k))) ?_
                refine ev_letx (fun x16 ex16 => ?_)
                refine ev_st (pc' := 127) (L' := [xR a, xI p1, xI y5, xI v7, xI v8, xI x16, xI v7, xI v8, xI 1]) (st' := []) (fun _ _ _ k => e_iinc dX10_best_124 (i := 5) rfl (x := y5) rfl (y := x16) ex16 (L' := [xR a, xI p1, xI y5, xI v7, xI v8, xI x16, xI v7, xI v8, xI 1]) rfl k) ?_
                refine ev_st (pc' := 24) (L' := [xR a, xI p1, xI y5, xI v7, xI v8, xI x16, xU, xU, xU]) (st' := []) (fun _ _ _ k => e_goto dX10_best_127 (tgt := 24) rfl (e_fg [6, 7, 8] k)) ?_
                exact ih y5 v7 v8 x16 v4.2
            · refine ev_st (pc' := 96) (L' := [xR a, xI p1, xI y2, xI y3, xI y4, xI y5, xI v7, xI v8, xI 0]) (st' := []) (fun _ _ _ k => e_iconst dX10_best_83 (k4 rfl) (e_istore dX10_best_84 (i := 8) rfl (L' := [xR a, xI p1, xI y2, xI y3, xI y4, xI y5, xI v7, xI v8, xI 0]) rfl (e_iload dX10_best_86 (i := 8) (x := 0) rfl (e_ifeqT dX10_best_88 (tgt := 96) rfl (by decide) k)))) ?_
              refine ev_st (pc' := 108) (L' := [xR a, xI p1, xI y2, xI y3, xI y4, xI y5, xI v7, xI v8, xI 0]) (st' := []) (fun _ _ _ k => e_iload_n dX10_best_96 rfl (i := 2) (x := y2) rfl (e_istore_n dX10_best_97 rfl (i := 2) rfl (L' := [xR a, xI p1, xI y2, xI y3, xI y4, xI y5, xI v7, xI v8, xI 0]) rfl (e_iload dX10_best_98 (i := 8) (x := 0) rfl (e_ifeqT dX10_best_100 (tgt := 108) rfl (by decide) k)))) ?_
              refine ev_st (pc' := 120) (L' := [xR a, xI p1, xI y2, xI y3, xI y4, xI y5, xI v7, xI v8, xI 0]) (st' := []) (fun _ _ _ k => e_iload_n dX10_best_108 rfl (i := 3) (x := y3) rfl (e_istore_n dX10_best_109 rfl (i := 3) rfl (L' := [xR a, xI p1, xI y2, xI y3, xI y4, xI y5, xI v7, xI v8, xI 0]) rfl (e_iload dX10_best_110 (i := 8) (x := 0) rfl (e_ifeqT dX10_best_112 (tgt := 120) rfl (by decide) k)))) ?_
              refine ev_st (pc' := 124) (L' := [xR a, xI p1, xI y2, xI y3, xI y4, xI y5, xI v7, xI v8, xI 0]) (st' := []) (fun _ _ _ k => e_iload dX10_best_120 (i := 4) (x := y4) rfl (e_istore dX10_best_122 (i := 4) rfl (L' := [xR a, xI p1, xI y2, xI y3, xI y4, xI y5, xI v7, xI v8, xI 0]) rfl k)) ?_
              refine ev_letx (fun x17 ex17 => ?_)
              refine ev_st (pc' := 127) (L' := [xR a, xI p1, xI y2, xI y3, xI y4, xI x17, xI v7, xI v8, xI 0]) (st' := []) (fun _ _ _ k => e_iinc dX10_best_124 (i := 5) rfl (x := y5) rfl (y := x17) ex17 (L' := [xR a, xI p1, xI y2, xI y3, xI y4, xI x17, xI v7, xI v8, xI 0]) rfl k) ?_
              refine ev_st (pc' := 24) (L' := [xR a, xI p1, xI y2, xI y3, xI y4, xI x17, xU, xU, xU]) (st' := []) (fun _ _ _ k => e_goto dX10_best_127 (tgt := 24) rfl (e_fg [6, 7, 8] k)) ?_
              exact ih y2 y3 y4 x17 v4.2
      · refine ev_letx (fun x18 ex18 => ?_)
        refine ev_st (pc' := 127) (L' := [xR a, xI p1, xI y2, xI y3, xI y4, xI x18, xU, xU, xU]) (st' := []) (fun _ _ _ k => e_iinc dX10_best_124 (i := 5) rfl (x := y5) rfl (y := x18) ex18 (L' := [xR a, xI p1, xI y2, xI y3, xI y4, xI x18, xU, xU, xU]) rfl k) ?_
        refine ev_st (pc' := 24) (L' := [xR a, xI p1, xI y2, xI y3, xI y4, xI x18, xU, xU, xU]) (st' := []) (fun _ _ _ k => e_goto dX10_best_127 (tgt := 24) rfl k) ?_
        exact ih y2 y3 y4 x18 v4.2
set_option maxRecDepth 20000 in
set_option maxHeartbeats 4000000 in
theorem c_X10_best {l : Launch} {g : xG} {d : Nat} {A : xA} {R : xN} {a : Nat} (h_a : sh 10 A a) (i0 : Int) : Ev l g (d + 4) mX10_best 0 [xR a, xI i0, xU, xU, xU, xU, xU, xU, xU] [] A R (fun v : Int × xN => some (xI v.1)) (fun v => v.2) (f_X10_best a i0 R) := by
  rw [f_X10_best]
  refine ev_st (pc' := 6) (L' := [xR a, xI i0, xU, xU, xU, xU, xU, xU, xU]) (st' := [xL 2, xL 0, xL i0]) (fun _ _ _ k => e_iload_n dX10_best_0 rfl (i := 1) (x := i0) rfl (e_i2l dX10_best_1 (e_lconst dX10_best_2 (i := 0) rfl (k8 rfl) (e_ldc2 dX10_best_3 ckX10_329 (k8 rfl) k)))) ?_
  refine ev_callS (As := [xL i0, xL 0, xL 2]) (st := []) (fun v1 => [xI (xz v1)]) dX10_best_6 mlX10_101 rfl rfl rfl rfl rfl rfl (c_X10_in (d := d + 3) i0 0 2) (fun _ => xz01 _) (fun _ => rfl) (fun v1 => ?_)
  refine ev_br2 (P := v1 = true) (pct := 14) (pcf := 12) (st' := []) (fun _ _ _ kt kf => e_ifnez dX10_best_9 (tgt := 14) rfl kt kf) (fun h2 => ?_) (fun h2 => ?_)
  · refine ev_st (pc' := 24) (L' := [xR a, xI i0, xI (-1), xI 0, xI 0, xI 0, xU, xU, xU]) (st' := []) (fun _ _ _ k => e_iconst dX10_best_14 (k4 rfl) (e_istore_n dX10_best_15 rfl (i := 2) rfl (L' := [xR a, xI i0, xI (-1), xU, xU, xU, xU, xU, xU]) rfl (e_iconst dX10_best_16 (k4 rfl) (e_istore_n dX10_best_17 rfl (i := 3) rfl (L' := [xR a, xI i0, xI (-1), xI 0, xU, xU, xU, xU, xU]) rfl (e_iconst dX10_best_18 (k4 rfl) (e_istore dX10_best_19 (i := 4) rfl (L' := [xR a, xI i0, xI (-1), xI 0, xI 0, xU, xU, xU, xU]) rfl (e_iconst dX10_best_21 (k4 rfl) (e_istore dX10_best_22 (i := 5) rfl (L' := [xR a, xI i0, xI (-1), xI 0, xI 0, xI 0, xU, xU, xU]) rfl k)))))))) ?_
    refine lc_X10_best_24 h_a i0 (fun z19 z20 z21 z22 R23 => ?_) 6000 (-1) 0 0 0 R
    refine ev_st (pc' := 131) (L' := [xU, xI i0, xI z19, xI z20, xI z21, xU, xU, xU, xU]) (st' := [xI i0]) (fun _ _ _ k => e_iload_n dX10_best_130 rfl (i := 1) (x := i0) rfl k) ?_
    refine ev_br2 (P := i0 = 0) (pct := 134) (pcf := 138) (st' := []) (fun _ _ _ kt kf => e_ifne dX10_best_131 (tgt := 138) rfl kt kf) (fun h24 => ?_) (fun h24 => ?_)
    · exact ev_ret (e_iload_n dX10_best_134 rfl (i := 2) (x := z19) rfl (e_goto dX10_best_135 (tgt := 149) rfl (e_iret dX10_best_149)))
    · refine ev_st (pc' := 140) (L' := [xU, xI i0, xI z19, xI z20, xI z21, xU, xU, xU, xU]) (st' := [xI 1, xI i0]) (fun _ _ _ k => e_iload_n dX10_best_138 rfl (i := 1) (x := i0) rfl (e_iconst dX10_best_139 (k4 rfl) k)) ?_
      refine ev_tern (P := i0 = 1) (a := z20) (b := z21) (pct := 143) (pcf := 147) (J := 149) (st' := []) (fun _ _ _ kt kf => e_cne dX10_best_140 (tgt := 147) rfl kt kf) (fun _ _ _ k => e_iload_n dX10_best_143 rfl (i := 3) (x := z20) rfl (e_goto dX10_best_144 (tgt := 149) rfl k)) (fun _ _ _ k => e_iload dX10_best_147 (i := 4) (x := z21) rfl k) (fun t25 et25 => ?_)
      exact ev_ret (e_iret dX10_best_149)
  · exact ev_ret (e_iconst dX10_best_12 (k4 rfl) (e_iret dX10_best_13))
