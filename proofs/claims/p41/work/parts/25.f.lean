def f_X9_best (a : Nat) (i0 : Int) (R : xN) : Option (Int × xN) :=
  (f_X9_isIn i0 0 2 R).bind (fun v1 =>
  if v1 = true then
  (f_X9_bestFolds a R).bind (fun v3 =>
  if i0 = 0 then
  some (v3.1, v3.2)
  else
  if i0 = 1 then
  (f_X9_cutsFor a v3.1 v3.2).bind (fun v6 =>
  (f_J6_bitCount_0f7a4 v6.1 v6.2).bind (fun v7 =>
  some (v7, v6.2)))
  else
  (f_X9_readsBy a v3.1 v3.2).bind (fun v8 =>
  some (v8.1, v8.2)))
  else
  some ((-1), R))
set_option maxRecDepth 20000 in
set_option maxHeartbeats 4000000 in
theorem c_X9_best {l : Launch} {g : xG} {d : Nat} {A : xA} {R : xN} {a : Nat} (h_a : sh 9 A a) (i0 : Int) : Ev l g (d + 6) mX9_best 0 [xR a, xI i0, xU] [] A R (fun v : Int × xN => some (xI v.1)) (fun v => v.2) (f_X9_best a i0 R) := by
  rw [f_X9_best]
  refine ev_st (pc' := 3) (L' := [xR a, xI i0, xU]) (st' := [xI 2, xI 0, xI i0]) (fun _ _ _ k => e_iload_n dX9_best_0 rfl (i := 1) (x := i0) rfl (e_iconst dX9_best_1 (k4 rfl) (e_iconst dX9_best_2 (k4 rfl) k))) ?_
  refine ev_callS (As := [xI i0, xI 0, xI 2]) (st := []) (fun v1 => [xI (xz v1)]) dX9_best_3 mlX9_145 rfl rfl rfl rfl rfl rfl (c_X9_isIn (d := d + 5) i0 0 2) (fun _ => xz01 _) (fun _ => rfl) (fun v1 => ?_)
  refine ev_br2 (P := v1 = true) (pct := 11) (pcf := 9) (st' := []) (fun _ _ _ kt kf => e_ifnez dX9_best_6 (tgt := 11) rfl kt kf) (fun h2 => ?_) (fun h2 => ?_)
  · refine ev_st (pc' := 12) (L' := [xR a, xI i0, xU]) (st' := [xR a]) (fun _ _ _ k => e_aload_n dX9_best_11 rfl (i := 0) (x := a) rfl k) ?_
    refine ev_callV (As := []) (st := []) (fun v3 => [xI v3.1]) dX9_best_12 mlX9_434 (kd9_0 h_a) rfl rfl rfl rfl rfl rfl (c_X9_bestFolds (d := d) h_a) (fun _ => trivial) (fun _ => rfl) (fun v3 => ?_)
    refine ev_st (pc' := 17) (L' := [xR a, xI i0, xI v3.1]) (st' := [xI i0]) (fun _ _ _ k => e_istore_n dX9_best_15 rfl (i := 2) rfl (L' := [xR a, xI i0, xI v3.1]) rfl (e_iload_n dX9_best_16 rfl (i := 1) (x := i0) rfl k)) ?_
    refine ev_br2 (P := i0 = 0) (pct := 20) (pcf := 22) (st' := []) (fun _ _ _ kt kf => e_ifne dX9_best_17 (tgt := 22) rfl kt kf) (fun h4 => ?_) (fun h4 => ?_)
    · exact ev_ret (e_iload_n dX9_best_20 rfl (i := 2) (x := v3.1) rfl (e_iret dX9_best_21))
    · refine ev_st (pc' := 24) (L' := [xR a, xI i0, xI v3.1]) (st' := [xI 1, xI i0]) (fun _ _ _ k => e_iload_n dX9_best_22 rfl (i := 1) (x := i0) rfl (e_iconst dX9_best_23 (k4 rfl) k)) ?_
      refine ev_br2 (P := i0 = 1) (pct := 27) (pcf := 38) (st' := []) (fun _ _ _ kt kf => e_cne dX9_best_24 (tgt := 38) rfl kt kf) (fun h5 => ?_) (fun h5 => ?_)
      · refine ev_st (pc' := 29) (L' := [xR a, xI i0, xI v3.1]) (st' := [xI v3.1, xR a]) (fun _ _ _ k => e_aload_n dX9_best_27 rfl (i := 0) (x := a) rfl (e_iload_n dX9_best_28 rfl (i := 2) (x := v3.1) rfl k)) ?_
        refine ev_callV (As := [xI v3.1]) (st := []) (fun v6 => [xI v6.1]) dX9_best_29 mlX9_437 (kd9_0 h_a) rfl rfl rfl rfl rfl rfl (c_X9_cutsFor (d := d) h_a v3.1) (fun _ => trivial) (fun _ => rfl) (fun v6 => ?_)
        refine ev_callS (As := [xI v6.1]) (st := []) (fun v7 => [xI v7]) dX9_best_32 mlX9_290 rfl rfl rfl rfl rfl rfl (c_J6_bitCount_0f7a4 (d := d + 5) v6.1) (fun _ => trivial) (fun _ => rfl) (fun v7 => ?_)
        exact ev_ret (e_goto dX9_best_35 (tgt := 43) rfl (e_iret dX9_best_43))
      · refine ev_st (pc' := 40) (L' := [xR a, xI i0, xI v3.1]) (st' := [xI v3.1, xR a]) (fun _ _ _ k => e_aload_n dX9_best_38 rfl (i := 0) (x := a) rfl (e_iload_n dX9_best_39 rfl (i := 2) (x := v3.1) rfl k)) ?_
        refine ev_callV (As := [xI v3.1]) (st := []) (fun v8 => [xI v8.1]) dX9_best_40 mlX9_440 (kd9_0 h_a) rfl rfl rfl rfl rfl rfl (c_X9_readsBy (d := d) h_a v3.1) (fun _ => trivial) (fun _ => rfl) (fun v8 => ?_)
        exact ev_ret (e_iret dX9_best_43)
  · exact ev_ret (e_iconst dX9_best_9 (k4 rfl) (e_iret dX9_best_10))
def f_L_cell (xs : Nat → Int) (xn : Int) (i1 : Int) (R : xN) : Option (Int) :=
  if xn ≤ i1 then
  some (b4and (w4 ((w4 (15485959 * i1)) + 109)) 2147483647)
  else
  if 0 ≤ i1 ∧ i1 < xn then
  some (b4and (xs (i1).toNat) 2147483647)
  else none
set_option maxRecDepth 20000 in
set_option maxHeartbeats 4000000 in
theorem c_L_cell {l : Launch} {g : xG} {d : Nat} {A : xA} {R : xN} {xs : Nat → Int} {xn : Int} (h_xs : xscI g = xs) (h_xn : xscN g = xn) (h_4 : i4 xn) (i1 : Int) : Ev l g (d) mL_cell 0 [xS 300, xI i1] [] A R (fun v : Int => some (xI v)) (fun _ => R) (f_L_cell xs xn i1 R) := by
  rw [f_L_cell]
  refine ev_st (pc' := 3) (L' := [xS 300, xI i1]) (st' := [xI xn, xI i1]) (fun _ _ _ k => e_iload_n dL_cell_0 rfl (i := 1) (x := i1) rfl (e_aload_nS dL_cell_1 rfl (i := 0) (x := 300) rfl rfl (e_xlen dL_cell_2 h_xn h_4 k))) ?_
  refine ev_br2 (P := xn ≤ i1) (pct := 12) (pcf := 6) (st' := []) (fun _ _ _ kt kf => e_cge dL_cell_3 (tgt := 12) rfl kt kf) (fun h1 => ?_) (fun h1 => ?_)
  · exact ev_ret (e_ldci dL_cell_12 ckL_7 (k4 rfl) (e_iload_n dL_cell_14 rfl (i := 1) (x := i1) rfl (e_imul dL_cell_15 (e_bipush dL_cell_16 rfl (k4 rfl) (e_iadd dL_cell_18 (e_ldci dL_cell_19 ckL_8 (k4 rfl) (e_iand dL_cell_21 (e_iret dL_cell_22))))))))
  · refine ev_st (pc' := 8) (L' := [xS 300, xI i1]) (st' := [xI i1, xS 300]) (fun _ _ _ k => e_aload_nS dL_cell_6 rfl (i := 0) (x := 300) rfl rfl (e_iload_n dL_cell_7 rfl (i := 1) (x := i1) rfl k)) ?_
    refine ev_chk (fun h2 => ?_)
    refine ev_st (pc' := 9) (L' := [xS 300, xI i1]) (st' := [xI (xs (i1).toNat)]) (fun _ _ _ k => e_xld dL_cell_8 h_xs h_xn h2 k) ?_
    exact ev_ret (e_goto dL_cell_9 (tgt := 19) rfl (e_ldci dL_cell_19 ckL_8 (k4 rfl) (e_iand dL_cell_21 (e_iret dL_cell_22))))
def lp_L_foldsBy_11 (R : xN) : Nat → Int → Int → Int → Int → (Int → Int → Int → Int → Option (Int)) → Option (Int)
  | 0, _, _, _, _, _ => none
  | n + 1, y3, y4, y5, y6, X =>
    if (w4 (y5 + y6)) ≤ 0 then
    X y3 y4 y5 y6
    else
    if y5 = 0 then
    xlet (w4 ((w4 ((w4 (10 * y3)) + 1)) + (Int.tmod (w4 (Int.tdiv y4 2)) 2))) (fun x3 =>
    xlet (w4 (Int.tdiv y4 4)) (fun x4 =>
    xlet (w4 (y5 - 0)) (fun x5 =>
    xlet (w4 (y6 - 1)) (fun x6 =>
    lp_L_foldsBy_11 R n x3 x4 x5 x6 X))))
    else
    if y6 ≤ 0 then
    xlet (w4 ((w4 ((w4 (10 * y3)) + 3)) + (Int.tmod (w4 (Int.tdiv y4 2)) 2))) (fun x8 =>
    xlet (w4 (Int.tdiv y4 4)) (fun x9 =>
    xlet (w4 (y5 - 1)) (fun x10 =>
    xlet (w4 (y6 - 0)) (fun x11 =>
    lp_L_foldsBy_11 R n x8 x9 x10 x11 X))))
    else
    if (Int.tmod y4 2) = 0 then
    xlet (w4 ((w4 ((w4 (10 * y3)) + 1)) + (Int.tmod (w4 (Int.tdiv y4 2)) 2))) (fun x13 =>
    xlet (w4 (Int.tdiv y4 4)) (fun x14 =>
    xlet (w4 (y5 - 0)) (fun x15 =>
    xlet (w4 (y6 - 1)) (fun x16 =>
    lp_L_foldsBy_11 R n x13 x14 x15 x16 X))))
    else
    xlet (w4 ((w4 ((w4 (10 * y3)) + 3)) + (Int.tmod (w4 (Int.tdiv y4 2)) 2))) (fun x17 =>
    xlet (w4 (Int.tdiv y4 4)) (fun x18 =>
    xlet (w4 (y5 - 1)) (fun x19 =>
    xlet (w4 (y6 - 0)) (fun x20 =>
    lp_L_foldsBy_11 R n x17 x18 x19 x20 X))))
def f_L_foldsBy (i0 : Int) (i1 : Int) (i2 : Int) (R : xN) : Option (Int) :=
  lp_L_foldsBy_11 R 6000 0 i0 i1 i2 (fun z21 z22 z23 z24 =>
  some z21)
set_option maxRecDepth 20000 in
set_option maxHeartbeats 4000000 in
theorem lc_L_foldsBy_11 {l : Launch} {g : xG} {d : Nat} {A : xA}  (R : xN) {X : Int → Int → Int → Int → Option (Int)} (hX : ∀ (y3 : Int) (y4 : Int) (y5 : Int) (y6 : Int), Ev l g (d) mL_foldsBy 105 [xU, xU, xU, xI y3, xU, xU, xU, xU] [] A R (fun v : Int => some (xI v)) (fun _ => R) (X y3 y4 y5 y6)) (n : Nat) (y3 : Int) (y4 : Int) (y5 : Int) (y6 : Int) : Ev l g (d) mL_foldsBy 11 [xU, xU, xU, xI y3, xI y4, xI y5, xI y6, xU] [] A R (fun v : Int => some (xI v)) (fun _ => R) (lp_L_foldsBy_11 R n y3 y4 y5 y6 X) := by
  induction n generalizing y3 y4 y5 y6 with
  | zero => exact ev_none
  | succ n ih =>
    rw [lp_L_foldsBy_11]
    refine ev_st (pc' := 16) (L' := [xU, xU, xU, xI y3, xI y4, xI y5, xI y6, xU]) (st' := [xI (w4 (y5 + y6))]) (fun _ _ _ k => e_iload dL_foldsBy_11 (i := 5) (x := y5) rfl (e_iload dL_foldsBy_13 (i := 6) (x := y6) rfl (e_iadd dL_foldsBy_15 k))) ?_
    refine ev_br2 (P := (w4 (y5 + y6)) ≤ 0) (pct := 105) (pcf := 19) (st' := []) (fun _ _ _ kt kf => e_ifle dL_foldsBy_16 (tgt := 105) rfl kt kf) (fun h1 => ?_) (fun h1 => ?_)
    · refine ev_st (pc' := 105) (L' := [xU, xU, xU, xI y3, xU, xU, xU, xU]) (st' := []) (fun _ _ _ k => e_fg [4, 5, 6] k) ?_
      exact hX y3 y4 y5 y6
    · refine ev_st (pc' := 21) (L' := [xU, xU, xU, xI y3, xI y4, xI y5, xI y6, xU]) (st' := [xI y5]) (fun _ _ _ k => e_iload dL_foldsBy_19 (i := 5) (x := y5) rfl k) ?_
      refine ev_br2 (P := y5 = 0) (pct := 36) (pcf := 24) (st' := []) (fun _ _ _ kt kf => e_ifeq dL_foldsBy_21 (tgt := 36) rfl kt kf) (fun h2 => ?_) (fun h2 => ?_)
      · refine ev_st (pc' := 52) (L' := [xU, xU, xU, xI y3, xI y4, xI y5, xI y6, xI 1]) (st' := [xI (w4 (10 * y3))]) (fun _ _ _ k => e_iconst dL_foldsBy_36 (k4 rfl) (e_goto dL_foldsBy_37 (tgt := 41) rfl (e_istore dL_foldsBy_41 (i := 7) rfl (L' := [xU, xU, xU, xI y3, xI y4, xI y5, xI y6, xI 1]) rfl (e_bipush dL_foldsBy_43 rfl (k4 rfl) (e_iload_n dL_foldsBy_45 rfl (i := 3) (x := y3) rfl (e_imul dL_foldsBy_46 (e_iload dL_foldsBy_47 (i := 7) (x := 1) rfl (e_ifeqF dL_foldsBy_49 (tgt := 56) rfl (by decide) k)))))))) ?_
        refine ev_st (pc' := 65) (L' := [xU, xU, xU, xI y3, xI y4, xI y5, xI y6, xI 1]) (st' := [xI (w4 ((w4 ((w4 (10 * y3)) + 1)) + (Int.tmod (w4 (Int.tdiv y4 2)) 2)))]) (fun _ _ _ k => e_iconst dL_foldsBy_52 (k4 rfl) (e_goto dL_foldsBy_53 (tgt := 57) rfl (e_iadd dL_foldsBy_57 (e_iload dL_foldsBy_58 (i := 4) (x := y4) rfl (e_iconst dL_foldsBy_60 (k4 rfl) (e_idiv dL_foldsBy_61 (by decide) (e_iconst dL_foldsBy_62 (k4 rfl) (e_irem dL_foldsBy_63 (by decide) (e_iadd dL_foldsBy_64 k))))))))) ?_
        refine ev_leti (fun x3 ex3 => ?_)
        refine ev_st (pc' := 66) (L' := [xU, xU, xU, xI x3, xI y4, xI y5, xI y6, xI 1]) (st' := []) (fun _ _ _ k => e_istore_n dL_foldsBy_65 rfl (i := 3) rfl (L' := [xU, xU, xU, xI x3, xI y4, xI y5, xI y6, xI 1]) rfl k) ?_
        refine ev_st (pc' := 70) (L' := [xU, xU, xU, xI x3, xI y4, xI y5, xI y6, xI 1]) (st' := [xI (w4 (Int.tdiv y4 4))]) (fun _ _ _ k => e_iload dL_foldsBy_66 (i := 4) (x := y4) rfl (e_iconst dL_foldsBy_68 (k4 rfl) (e_idiv dL_foldsBy_69 (by decide) k))) ?_
        refine ev_leti (fun x4 ex4 => ?_)
        refine ev_st (pc' := 72) (L' := [xU, xU, xU, xI x3, xI x4, xI y5, xI y6, xI 1]) (st' := []) (fun _ _ _ k => e_istore dL_foldsBy_70 (i := 4) rfl (L' := [xU, xU, xU, xI x3, xI x4, xI y5, xI y6, xI 1]) rfl k) ?_
        refine ev_st (pc' := 79) (L' := [xU, xU, xU, xI x3, xI x4, xI y5, xI y6, xI 1]) (st' := [xI y5]) (fun _ _ _ k => e_iload dL_foldsBy_72 (i := 5) (x := y5) rfl (e_iload dL_foldsBy_74 (i := 7) (x := 1) rfl (e_ifeqF dL_foldsBy_76 (tgt := 83) rfl (by decide) k))) ?_
        refine ev_st (pc' := 85) (L' := [xU, xU, xU, xI x3, xI x4, xI y5, xI y6, xI 1]) (st' := [xI (w4 (y5 - 0))]) (fun _ _ _ k => e_iconst dL_foldsBy_79 (k4 rfl) (e_goto dL_foldsBy_80 (tgt := 84) rfl (e_isub dL_foldsBy_84 k))) ?_
        refine ev_leti (fun x5 ex5 => ?_)
        refine ev_st (pc' := 87) (L' := [xU, xU, xU, xI x3, xI x4, xI x5, xI y6, xI 1]) (st' := []) (fun _ _ _ k => e_istore dL_foldsBy_85 (i := 5) rfl (L' := [xU, xU, xU, xI x3, xI x4, xI x5, xI y6, xI 1]) rfl k) ?_
        refine ev_st (pc' := 94) (L' := [xU, xU, xU, xI x3, xI x4, xI x5, xI y6, xI 1]) (st' := [xI y6]) (fun _ _ _ k => e_iload dL_foldsBy_87 (i := 6) (x := y6) rfl (e_iload dL_foldsBy_89 (i := 7) (x := 1) rfl (e_ifeqF dL_foldsBy_91 (tgt := 98) rfl (by decide) k))) ?_
        refine ev_st (pc' := 100) (L' := [xU, xU, xU, xI x3, xI x4, xI x5, xI y6, xI 1]) (st' := [xI (w4 (y6 - 1))]) (fun _ _ _ k => e_iconst dL_foldsBy_94 (k4 rfl) (e_goto dL_foldsBy_95 (tgt := 99) rfl (e_isub dL_foldsBy_99 k))) ?_
        refine ev_leti (fun x6 ex6 => ?_)
        refine ev_st (pc' := 102) (L' := [xU, xU, xU, xI x3, xI x4, xI x5, xI x6, xI 1]) (st' := []) (fun _ _ _ k => e_istore dL_foldsBy_100 (i := 6) rfl (L' := [xU, xU, xU, xI x3, xI x4, xI x5, xI x6, xI 1]) rfl k) ?_
        refine ev_st (pc' := 11) (L' := [xU, xU, xU, xI x3, xI x4, xI x5, xI x6, xU]) (st' := []) (fun _ _ _ k => e_goto dL_foldsBy_102 (tgt := 11) rfl (e_fg [7] k)) ?_
        exact ih x3 x4 x5 x6
      · refine ev_st (pc' := 26) (L' := [xU, xU, xU, xI y3, xI y4, xI y5, xI y6, xU]) (st' := [xI y6]) (fun _ _ _ k => e_iload dL_foldsBy_24 (i := 6) (x := y6) rfl k) ?_
        refine ev_br2 (P := y6 ≤ 0) (pct := 40) (pcf := 29) (st' := []) (fun _ _ _ kt kf => e_ifle dL_foldsBy_26 (tgt := 40) rfl kt kf) (fun h7 => ?_) (fun h7 => ?_)
        · refine ev_st (pc' := 56) (L' := [xU, xU, xU, xI y3, xI y4, xI y5, xI y6, xI 0]) (st' := [xI (w4 (10 * y3))]) (fun _ _ _ k => e_iconst dL_foldsBy_40 (k4 rfl) (e_istore dL_foldsBy_41 (i := 7) rfl (L' := [xU, xU, xU, xI y3, xI y4, xI y5, xI y6, xI 0]) rfl (e_bipush dL_foldsBy_43 rfl (k4 rfl) (e_iload_n dL_foldsBy_45 rfl (i := 3) (x := y3) rfl (e_imul dL_foldsBy_46 (e_iload dL_foldsBy_47 (i := 7) (x := 0) rfl (e_ifeqT dL_foldsBy_49 (tgt := 56) rfl (by decide) k))))))) ?_
          refine ev_st (pc' := 65) (L' := [xU, xU, xU, xI y3, xI y4, xI y5, xI y6, xI 0]) (st' := [xI (w4 ((w4 ((w4 (10 * y3)) + 3)) + (Int.tmod (w4 (Int.tdiv y4 2)) 2)))]) (fun _ _ _ k => e_iconst dL_foldsBy_56 (k4 rfl) (e_iadd dL_foldsBy_57 (e_iload dL_foldsBy_58 (i := 4) (x := y4) rfl (e_iconst dL_foldsBy_60 (k4 rfl) (e_idiv dL_foldsBy_61 (by decide) (e_iconst dL_foldsBy_62 (k4 rfl) (e_irem dL_foldsBy_63 (by decide) (e_iadd dL_foldsBy_64 k)))))))) ?_
          refine ev_leti (fun x8 ex8 => ?_)
          refine ev_st (pc' := 66) (L' := [xU, xU, xU, xI x8, xI y4, xI y5, xI y6, xI 0]) (st' := []) (fun _ _ _ k => e_istore_n dL_foldsBy_65 rfl (i := 3) rfl (L' := [xU, xU, xU, xI x8, xI y4, xI y5, xI y6, xI 0]) rfl k) ?_
          refine ev_st (pc' := 70) (L' := [xU, xU, xU, xI x8, xI y4, xI y5, xI y6, xI 0]) (st' := [xI (w4 (Int.tdiv y4 4))]) (fun _ _ _ k => e_iload dL_foldsBy_66 (i := 4) (x := y4) rfl (e_iconst dL_foldsBy_68 (k4 rfl) (e_idiv dL_foldsBy_69 (by decide) k))) ?_
          refine ev_leti (fun x9 ex9 => ?_)
          refine ev_st (pc' := 72) (L' := [xU, xU, xU, xI x8, xI x9, xI y5, xI y6, xI 0]) (st' := []) (fun _ _ _ k => e_istore dL_foldsBy_70 (i := 4) rfl (L' := [xU, xU, xU, xI x8, xI x9, xI y5, xI y6, xI 0]) rfl k) ?_
          refine ev_st (pc' := 83) (L' := [xU, xU, xU, xI x8, xI x9, xI y5, xI y6, xI 0]) (st' := [xI y5]) (fun _ _ _ k => e_iload dL_foldsBy_72 (i := 5) (x := y5) rfl (e_iload dL_foldsBy_74 (i := 7) (x := 0) rfl (e_ifeqT dL_foldsBy_76 (tgt := 83) rfl (by decide) k))) ?_
          refine ev_st (pc' := 85) (L' := [xU, xU, xU, xI x8, xI x9, xI y5, xI y6, xI 0]) (st' := [xI (w4 (y5 - 1))]) (fun _ _ _ k => e_iconst dL_foldsBy_83 (k4 rfl) (e_isub dL_foldsBy_84 k)) ?_
          refine ev_leti (fun x10 ex10 => ?_)
          refine ev_st (pc' := 87) (L' := [xU, xU, xU, xI x8, xI x9, xI x10, xI y6, xI 0]) (st' := []) (fun _ _ _ k => e_istore dL_foldsBy_85 (i := 5) rfl (L' := [xU, xU, xU, xI x8, xI x9, xI x10, xI y6, xI 0]) rfl k) ?_
          refine ev_st (pc' := 98) (L' := [xU, xU, xU, xI x8, xI x9, xI x10, xI y6, xI 0]) (st' := [xI y6]) (fun _ _ _ k => e_iload dL_foldsBy_87 (i := 6) (x := y6) rfl (e_iload dL_foldsBy_89 (i := 7) (x := 0) rfl (e_ifeqT dL_foldsBy_91 (tgt := 98) rfl (by decide) k))) ?_
          refine ev_st (pc' := 100) (L' := [xU, xU, xU, xI x8, xI x9, xI x10, xI y6, xI 0]) (st' := [xI (w4 (y6 - 0))]) (fun _ _ _ k => e_iconst dL_foldsBy_98 (k4 rfl) (e_isub dL_foldsBy_99 k)) ?_
          refine ev_leti (fun x11 ex11 => ?_)
          refine ev_st (pc' := 102) (L' := [xU, xU, xU, xI x8, xI x9, xI x10, xI x11, xI 0]) (st' := []) (fun _ _ _ k => e_istore dL_foldsBy_100 (i := 6) rfl (L' := [xU, xU, xU, xI x8, xI x9, xI x10, xI x11, xI 0]) rfl k) ?_
          refine ev_st (pc' := 11) (L' := [xU, xU, xU, xI x8, xI x9, xI x10, xI x11, xU]) (st' := []) (fun _ _ _ k => e_goto dL_foldsBy_102 (tgt := 11) rfl (e_fg [7] k)) ?_
          exact ih x8 x9 x10 x11
        · refine ev_st (pc' := 33) (L' := [xU, xU, xU, xI y3, xI y4, xI y5, xI y6, xU]) (st' := [xI (Int.tmod y4 2)]) (fun _ _ _ k => e_iload dL_foldsBy_29 (i := 4) (x := y4) rfl (e_iconst dL_foldsBy_31 (k4 rfl) (e_irem dL_foldsBy_32 (by decide) k))) ?_
          refine ev_br2 (P := (Int.tmod y4 2) = 0) (pct := 36) (pcf := 40) (st' := []) (fun _ _ _ kt kf => e_ifne dL_foldsBy_33 (tgt := 40) rfl kt kf) (fun h12 => ?_) (fun h12 => ?_)
          · refine ev_st (pc' := 52) (L' := [xU, xU, xU, xI y3, xI y4, xI y5, xI y6, xI 1]) (st' := [xI (w4 (10 * y3))]) (fun _ _ _ k => e_iconst dL_foldsBy_36 (k4 rfl) (e_goto dL_foldsBy_37 (tgt := 41) rfl (e_istore dL_foldsBy_41 (i := 7) rfl (L' := [xU, xU, xU, xI y3, xI y4, xI y5, xI y6, xI 1]) rfl (e_bipush dL_foldsBy_43 rfl (k4 rfl) (e_iload_n dL_foldsBy_45 rfl (i := 3) (x := y3) rfl (e_imul dL_foldsBy_46 (e_iload dL_foldsBy_47 (i := 7) (x := 1) rfl (e_ifeqF dL_foldsBy_49 (tgt := 56) rfl (by decide) k)))))))) ?_
            refine ev_st (pc' := 65) (L' := [xU, xU, xU, xI y3, xI y4, xI y5, xI y6, xI 1]) (st' := [xI (w4 ((w4 ((w4 (10 * y3)) + 1)) + (Int.tmod (w4 (Int.tdiv y4 2)) 2)))]) (fun _ _ _ k => e_iconst dL_foldsBy_52 (k4 rfl) (e_goto dL_foldsBy_53 (tgt := 57) rfl (e_iadd dL_foldsBy_57 (e_iload dL_foldsBy_58 (i := 4) (x := y4) rfl (e_iconst dL_foldsBy_60 (k4 rfl) (e_idiv dL_foldsBy_61 (by decide) (e_iconst dL_foldsBy_62 (k4 rfl) (e_irem dL_foldsBy_63 (by decide) (e_iadd dL_foldsBy_64 k))))))))) ?_
            refine ev_leti (fun x13 ex13 => ?_)
            refine ev_st (pc' := 66) (L' := [xU, xU, xU, xI x13, xI y4, xI y5, xI y6, xI 1]) (st' := []) (fun _ _ _ k => e_istore_n dL_foldsBy_65 rfl (i := 3) rfl (L' := [xU, xU, xU, xI x13, xI y4, xI y5, xI y6, xI 1]) rfl k) ?_
            refine ev_st (pc' := 70) (L' := [xU, xU, xU, xI x13, xI y4, xI y5, xI y6, xI 1]) (st' := [xI (w4 (Int.tdiv y4 4))]) (fun _ _ _ k => e_iload dL_foldsBy_66 (i := 4) (x := y4) rfl (e_iconst dL_foldsBy_68 (k4 rfl) (e_idiv dL_foldsBy_69 (by decide) k))) ?_
            refine ev_leti (fun x14 ex14 => ?_)
            refine ev_st (pc' := 72) (L' := [xU, xU, xU, xI x13, xI x14, xI y5, xI y6, xI 1]) (st' := []) (fun _ _ _ k => e_istore dL_foldsBy_70 (i := 4) rfl (L' := [xU, xU, xU, xI x13, xI x14, xI y5, xI y6, xI 1]) rfl k) ?_
            refine ev_st (pc' := 79) (L' := [xU, xU, xU, xI x13, xI x14, xI y5, xI y6, xI 1]) (st' := [xI y5]) (fun _ _ _ k => e_iload dL_foldsBy_72 (i := 5) (x := y5) rfl (e_iload dL_foldsBy_74 (i := 7) (x := 1) rfl (e_ifeqF dL_foldsBy_76 (tgt := 83) rfl (by decide) k))) ?_
            refine ev_st (pc' := 85) (L' := [xU, xU, xU, xI x13, xI x14, xI y5, xI y6, xI 1]) (st' := [xI (w4 (y5 - 0))]) (fun _ _ _ k => e_iconst dL_foldsBy_79 (k4 rfl) (e_goto dL_foldsBy_80 (tgt := 84) rfl (e_isub dL_foldsBy_84 k))) ?_
            refine ev_leti (fun x15 ex15 => ?_)
            refine ev_st (pc' := 87) (L' := [xU, xU, xU, xI x13, xI x14, xI x15, xI y6, xI 1]) (st' := []) (fun _ _ _ k => e_istore dL_foldsBy_85 (i := 5) rfl (L' := [xU, xU, xU, xI x13, xI x14, xI x15, xI y6, xI 1]) rfl k) ?_
            refine ev_st (pc' := 94) (L' := [xU, xU, xU, xI x13, xI x14, xI x15, xI y6, xI 1]) (st' := [xI y6]) (fun _ _ _ k => e_iload dL_foldsBy_87 (i := 6) (x := y6) rfl (e_iload dL_foldsBy_89 (i := 7) (x := 1) rfl (e_ifeqF dL_foldsBy_91 (tgt := 98) rfl (by decide) k))) ?_
            refine ev_st (pc' := 100) (L' := [xU, xU, xU, xI x13, xI x14, xI x15, xI y6, xI 1]) (st' := [xI (w4 (y6 - 1))]) (fun _ _ _ k => e_iconst dL_foldsBy_94 (k4 rfl) (e_goto dL_foldsBy_95 (tgt := 99) rfl (e_isub dL_foldsBy_99 k))) ?_
            refine ev_leti (fun x16 ex16 => ?_)
            refine ev_st (pc' := 102) (L' := [xU, xU, xU, xI x13, xI x14, xI x15, xI x16, xI 1]) (st' := []) (fun _ _ _ k => e_istore dL_foldsBy_100 (i := 6) rfl (L' := [xU, xU, xU, xI x13, xI x14, xI x15, xI x16, xI 1]) rfl k) ?_
            refine ev_st (pc' := 11) (L' := [xU, xU, xU, xI x13, xI x14, xI x15, xI x16, xU]) (st' := []) (fun _ _ _ k => e_goto dL_foldsBy_102 (tgt := 11) rfl (e_fg [7] k)) ?_
            exact ih x13 x14 x15 x16
          · refine ev_st (pc' := 56) (L' := [xU, xU, xU, xI y3, xI y4, xI y5, xI y6, xI 0]) (st' := [xI (w4 (10 * y3))]) (fun _ _ _ k => e_iconst dL_foldsBy_40 (k4 rfl) (e_istore dL_foldsBy_41 (i := 7) rfl (L' := [xU, xU, xU, xI y3, xI y4, xI y5, xI y6, xI 0]) rfl (e_bipush dL_foldsBy_43 rfl (k4 rfl) (e_iload_n dL_foldsBy_45 rfl (i := 3) (x := y3) rfl (e_imul dL_foldsBy_46 (e_iload dL_foldsBy_47 (i := 7) (x := 0) rfl (e_ifeqT dL_foldsBy_49 (tgt := 56) rfl (by decide) k))))))) ?_
            refine ev_st (pc' := 65) (L' := [xU, xU, xU, xI y3, xI y4, xI y5, xI y6, xI 0]) (st' := [xI (w4 ((w4 ((w4 (10 * y3)) + 3)) + (Int.tmod (w4 (Int.tdiv y4 2)) 2)))]) (fun _ _ _ k => e_iconst dL_foldsBy_56 (k4 rfl) (e_iadd dL_foldsBy_57 (e_iload dL_foldsBy_58 (i := 4) (x := y4) rfl (e_iconst dL_foldsBy_60 (k4 rfl) (e_idiv dL_foldsBy_61 (by decide) (e_iconst dL_foldsBy_62 (k4 rfl) (e_irem dL_foldsBy_63 (by decide) (e_iadd dL_foldsBy_64 k)))))))) ?_
            refine ev_leti (fun x17 ex17 => ?_)
            refine ev_st (pc' := 66) (L' := [xU, xU, xU, xI x17, xI y4, xI y5, xI y6, xI 0]) (st' := []) (fun _ _ _ k => e_istore_n dL_foldsBy_65 rfl (i := 3) rfl (L' := [xU, xU, xU, xI x17, xI y4, xI y5, xI y6, xI 0]) rfl k) ?_
            refine ev_st (pc' := 70) (L' := [xU, xU, xU, xI x17, xI y4, xI y5, xI y6, xI 0]) (st' := [xI (w4 (Int.tdiv y4 4))]) (fun _ _ _ k => e_iload dL_foldsBy_66 (i := 4) (x := y4) rfl (e_iconst dL_foldsBy_68 (k4 rfl) (e_idiv dL_foldsBy_69 (by decide) k))) ?_
            refine ev_leti (fun x18 ex18 => ?_)
            refine ev_st (pc' := 72) (L' := [xU, xU, xU, xI x17, xI x18, xI y5, xI y6, xI 0]) (st' := []) (fun _ _ _ k => e_istore dL_foldsBy_70 (i := 4) rfl (L' := [xU, xU, xU, xI x17, xI x18, xI y5, xI y6, xI 0]) rfl k) ?_
            refine ev_st (pc' := 83) (L' := [xU, xU, xU, xI x17, xI x18, xI y5, xI y6, xI 0]) (st' := [xI y5]) (fun _ _ _ k => e_iload dL_foldsBy_72 (i := 5) (x := y5) rfl (e_iload dL_foldsBy_74 (i := 7) (x := 0) rfl (e_ifeqT dL_foldsBy_76 (tgt := 83) rfl (by decide) k))) ?_
            refine ev_st (pc' := 85) (L' := [xU, xU, xU, xI x17, xI x18, xI y5, xI y6, xI 0]) (st' := [xI (w4 (y5 - 1))]) (fun _ _ _ k => e_iconst dL_foldsBy_83 (k4 rfl) (e_isub dL_foldsBy_84 k)) ?_
            refine ev_leti (fun x19 ex19 => ?_)
            refine ev_st (pc' := 87) (L' := [xU, xU, xU, xI x17, xI x18, xI x19, xI y6, xI 0]) (st' := []) (fun _ _ _ k => e_istore dL_foldsBy_85 (i := 5) rfl (L' := [xU, xU, xU, xI x17, xI x18, xI x19, xI y6, xI 0]) rfl k) ?_
            refine ev_st (pc' := 98) (L' := [xU, xU, xU, xI x17, xI x18, xI x19, xI y6, xI 0]) (st' := [xI y6]) (fun _ _ _ k => e_iload dL_foldsBy_87 (i := 6) (x := y6) rfl (e_iload dL_foldsBy_89 (i := 7) (x := 0) rfl (e_ifeqT dL_foldsBy_91 (tgt := 98) rfl (by decide) k))) ?_
            refine ev_st (pc' := 100) (L' := [xU, xU, xU, xI x17, xI x18, xI x19, xI y6, xI 0]) (st' := [xI (w4 (y6 - 0))]) (fun _ _ _ k => e_iconst dL_foldsBy_98 (k4 rfl) (e_isub dL_foldsBy_99 k)) ?_
            refine ev_leti (fun x20 ex20 => ?_)
            refine ev_st (pc' := 102) (L' := [xU, xU, xU, xI x17, xI x18, xI x19, xI x20, xI 0]) (st' := []) (fun _ _ _ k => e_istore dL_foldsBy_100 (i := 6) rfl (L' := [xU, xU, xU, xI x17, xI x18, xI x19, xI x20, xI 0]) rfl k) ?_
            refine ev_st (pc' := 11) (L' := [xU, xU, xU, xI x17, xI x18, xI x19, xI x20, xU]) (st' := []) (fun _ _ _ k => e_goto dL_foldsBy_102 (tgt := 11) rfl (e_fg [7] k)) ?_
            exact ih x17 x18 x19 x20
set_option maxRecDepth 20000 in
set_option maxHeartbeats 4000000 in
theorem c_L_foldsBy {l : Launch} {g : xG} {d : Nat} {A : xA} {R : xN}  (i0 : Int) (i1 : Int) (i2 : Int) : Ev l g (d) mL_foldsBy 0 [xI i0, xI i1, xI i2, xU, xU, xU, xU, xU] [] A R (fun v : Int => some (xI v)) (fun _ => R) (f_L_foldsBy i0 i1 i2 R) := by
  rw [f_L_foldsBy]
  refine ev_st (pc' := 11) (L' := [xU, xU, xU, xI 0, xI i0, xI i1, xI i2, xU]) (st' := []) (fun _ _ _ k => e_iconst dL_foldsBy_0 (k4 rfl) (e_istore_n dL_foldsBy_1 rfl (i := 3) rfl (L' := [xI i0, xI i1, xI i2, xI 0, xU, xU, xU, xU]) rfl (e_iload_n dL_foldsBy_2 rfl (i := 0) (x := i0) rfl (e_istore dL_foldsBy_3 (i := 4) rfl (L' := [xI i0, xI i1, xI i2, xI 0, xI i0, xU, xU, xU]) rfl (e_iload_n dL_foldsBy_5 rfl (i := 1) (x := i1) rfl (e_istore dL_foldsBy_6 (i := 5) rfl (L' := [xI i0, xI i1, xI i2, xI 0, xI i0, xI i1, xU, xU]) rfl (e_iload_n dL_foldsBy_8 rfl (i := 2) (x := i2) rfl (e_istore dL_foldsBy_9 (i := 6) rfl (L' := [xI i0, xI i1, xI i2, xI 0, xI i0, xI i1, xI i2, xU]) rfl (e_fg [0, 1, 2] k))))))))) ?_
  refine lc_L_foldsBy_11 R (fun z21 z22 z23 z24 => ?_) 6000 0 i0 i1 i2
  exact ev_ret (e_iload_n dL_foldsBy_105 rfl (i := 3) (x := z21) rfl (e_iret dL_foldsBy_106))
def lp_L_ones_4 (p0 : Int) (R : xN) : Nat → Int → Int → (Int → Int → Option (Int)) → Option (Int)
  | 0, _, _, _ => none
  | n + 1, y1, y2, X =>
    if 4 ≤ y2 then
    X y1 y2
    else
    xlet (w4 (y1 + (b4and (b4shr p0 y2) 1))) (fun x2 =>
    xlet (w4 (y2 + 1)) (fun x3 =>
    lp_L_ones_4 p0 R n x2 x3 X))
def f_L_ones (i0 : Int) (R : xN) : Option (Int) :=
  lp_L_ones_4 i0 R 6000 0 0 (fun z4 z5 =>
  some z4)
set_option maxRecDepth 20000 in
set_option maxHeartbeats 4000000 in
theorem lc_L_ones_4 {l : Launch} {g : xG} {d : Nat} {A : xA}  (p0 : Int) (R : xN) {X : Int → Int → Option (Int)} (hX : ∀ (y1 : Int) (y2 : Int), Ev l g (d) mL_ones 23 [xU, xI y1, xU] [] A R (fun v : Int => some (xI v)) (fun _ => R) (X y1 y2)) (n : Nat) (y1 : Int) (y2 : Int) : Ev l g (d) mL_ones 4 [xI p0, xI y1, xI y2] [] A R (fun v : Int => some (xI v)) (fun _ => R) (lp_L_ones_4 p0 R n y1 y2 X) := by
  induction n generalizing y1 y2 with
  | zero => exact ev_none
  | succ n ih =>
    rw [lp_L_ones_4]
    refine ev_st (pc' := 6) (L' := [xI p0, xI y1, xI y2]) (st' := [xI 4, xI y2]) (fun _ _ _ k => e_iload_n dL_ones_4 rfl (i := 2) (x := y2) rfl (e_iconst dL_ones_5 (k4 rfl) k)) ?_
    refine ev_br2 (P := 4 ≤ y2) (pct := 23) (pcf := 9) (st' := []) (fun _ _ _ kt kf => e_cge dL_ones_6 (tgt := 23) rfl kt kf) (fun h1 => ?_) (fun h1 => ?_)
    · refine ev_st (pc' := 23) (L' := [xU, xI y1, xU]) (st' := []) (fun _ _ _ k => e_fg [0, 2] k) ?_
      exact hX y1 y2
    · refine ev_st (pc' := 16) (L' := [xI p0, xI y1, xI y2]) (st' := [xI (w4 (y1 + (b4and (b4shr p0 y2) 1)))]) (fun _ _ _ k => e_iload_n dL_ones_9 rfl (i := 1) (x := y1) rfl (e_iload_n dL_ones_10 rfl (i := 0) (x := p0) rfl (e_iload_n dL_ones_11 rfl (i := 2) (x := y2) rfl (e_ishr dL_ones_12 (e_iconst dL_ones_13 (k4 rfl) (e_iand dL_ones_14 (e_iadd dL_ones_15 k))))))) ?_
      refine ev_leti (fun x2 ex2 => ?_)
      refine ev_st (pc' := 17) (L' := [xI p0, xI x2, xI y2]) (st' := []) (fun _ _ _ k => e_istore_n dL_ones_16 rfl (i := 1) rfl (L' := [xI p0, xI x2, xI y2]) rfl k) ?_
      refine ev_letx (fun x3 ex3 => ?_)
      refine ev_st (pc' := 20) (L' := [xI p0, xI x2, xI x3]) (st' := []) (fun _ _ _ k => e_iinc dL_ones_17 (i := 2) rfl (x := y2) rfl (y := x3) ex3 (L' := [xI p0, xI x2, xI x3]) rfl k) ?_
      refine ev_st (pc' := 4) (L' := [xI p0, xI x2, xI x3]) (st' := []) (fun _ _ _ k => e_goto dL_ones_20 (tgt := 4) rfl k) ?_
      exact ih x2 x3
set_option maxRecDepth 20000 in
set_option maxHeartbeats 4000000 in
theorem c_L_ones {l : Launch} {g : xG} {d : Nat} {A : xA} {R : xN}  (i0 : Int) : Ev l g (d) mL_ones 0 [xI i0, xU, xU] [] A R (fun v : Int => some (xI v)) (fun _ => R) (f_L_ones i0 R) := by
  rw [f_L_ones]
  refine ev_st (pc' := 4) (L' := [xI i0, xI 0, xI 0]) (st' := []) (fun _ _ _ k => e_iconst dL_ones_0 (k4 rfl) (e_istore_n dL_ones_1 rfl (i := 1) rfl (L' := [xI i0, xI 0, xU]) rfl (e_iconst dL_ones_2 (k4 rfl) (e_istore_n dL_ones_3 rfl (i := 2) rfl (L' := [xI i0, xI 0, xI 0]) rfl k)))) ?_
  refine lc_L_ones_4 i0 R (fun z4 z5 => ?_) 6000 0 0
  exact ev_ret (e_iload_n dL_ones_23 rfl (i := 1) (x := z4) rfl (e_iret dL_ones_24))
def lp_L_folds_8 (a : Nat) (p1 : Int) (p2 : Int) (R : xN) : Nat → Int → Int → (Int → Int → Option (Bool × xN)) → Option (Bool × xN)
  | 0, _, _, _ => none
  | n + 1, y4, y5, X =>
    if (w4 (p2 - 1)) ≤ y5 then
    X y4 y5
    else
    xlet (w4 (y4 * 10)) (fun x2 =>
    xlet (w4 (y5 + 1)) (fun x3 =>
    lp_L_folds_8 a p1 p2 R n x2 x3 X))
def lp_L_folds_32 (a : Nat) (p1 : Int) (p2 : Int) : Nat → Int → Int → Int → xN → (Int → Int → Int → xN → Option (Bool × xN)) → Option (Bool × xN)
  | 0, _, _, _, _, _ => none
  | n + 1, y3, y4, y5, R, X =>
    if p2 ≤ y5 then
    X y3 y4 y5 R
    else
    if y3 = 0 then
    X y3 y4 y5 R
    else
    (f_X9_count a 3 R).bind (fun v8 =>
    (f_X9_effort a 0 R).bind (fun v9 =>
    if y4 ≠ 0 then
    (f_X9_fold a (Int.tmod (w4 (Int.tdiv p1 y4)) 10) R).bind (fun v11 =>
    if v11.1 = (w4 (2 * v8)) then
    (f_X9_effort a 0 v11.2).bind (fun v13 =>
    if v13 = (w4 (v9 + v8)) then
    (f_X9_count a 2 v11.2).bind (fun v15 =>
    if v15 = (w4 (y5 + 1)) then
    xlet (w4 (Int.tdiv y4 10)) (fun x17 =>
    xlet (w4 (y5 + 1)) (fun x18 =>
    lp_L_folds_32 a p1 p2 n 1 x17 x18 v11.2 X))
    else
    none)
    else
    none)
    else
    none)
    else none))
def f_L_folds (a : Nat) (i1 : Int) (i2 : Int) (R : xN) : Option (Bool × xN) :=
  lp_L_folds_8 a i1 i2 R 6000 1 0 (fun z4 z5 =>
  lp_L_folds_32 a i1 i2 6000 1 z4 0 R (fun z19 z20 z21 R22 =>
  if z19 = 0 then
  some (false, R22)
  else
  (f_X9_count a 4 R22).bind (fun v24 =>
  if v24 = i1 then
  (f_X9_count a 5 R22).bind (fun v26 =>
  if v26 = 1 then
  some (true, R22)
  else
  some (false, R22))
  else
  some (false, R22))))
set_option maxRecDepth 20000 in
set_option maxHeartbeats 4000000 in
theorem lc_L_folds_8 {l : Launch} {g : xG} {d : Nat} {A : xA} {a : Nat} (h_a : sh 9 A a) (p1 : Int) (p2 : Int) (R : xN) {X : Int → Int → Option (Bool × xN)} (hX : ∀ (y4 : Int) (y5 : Int), Ev l g (d + 6) mL_folds 29 [xR a, xI p1, xI p2, xI 1, xI y4, xU, xU, xU] [] A R (fun v : Bool × xN => some (xI (xz v.1))) (fun v => v.2) (X y4 y5)) (n : Nat) (y4 : Int) (y5 : Int) : Ev l g (d + 6) mL_folds 8 [xR a, xI p1, xI p2, xI 1, xI y4, xI y5, xU, xU] [] A R (fun v : Bool × xN => some (xI (xz v.1))) (fun v => v.2) (lp_L_folds_8 a p1 p2 R n y4 y5 X) := by
  induction n generalizing y4 y5 with
  | zero => exact ev_none
  | succ n ih =>
    rw [lp_L_folds_8]
    refine ev_st (pc' := 13) (L' := [xR a, xI p1, xI p2, xI 1, xI y4, xI y5, xU, xU]) (st' := [xI (w4 (p2 - 1)), xI y5]) (fun _ _ _ k => e_iload dL_folds_8 (i := 5) (x := y5) rfl (e_iload_n dL_folds_10 rfl (i := 2) (x := p2) rfl (e_iconst dL_folds_11 (k4 rfl) (e_isub dL_folds_12 k)))) ?_
    refine ev_br2 (P := (w4 (p2 - 1)) ≤ y5) (pct := 29) (pcf := 16) (st' := []) (fun _ _ _ kt kf => e_cge dL_folds_13 (tgt := 29) rfl kt kf) (fun h1 => ?_) (fun h1 => ?_)
    · refine ev_st (pc' := 29) (L' := [xR a, xI p1, xI p2, xI 1, xI y4, xU, xU, xU]) (st' := []) (fun _ _ _ k => e_fg [5] k) ?_
      exact hX y4 y5
    · refine ev_st (pc' := 21) (L' := [xR a, xI p1, xI p2, xI 1, xI y4, xI y5, xU, xU]) (st' := [xI (w4 (y4 * 10))]) (fun _ _ _ k => e_iload dL_folds_16 (i := 4) (x := y4) rfl (e_bipush dL_folds_18 rfl (k4 rfl) (e_imul dL_folds_20 k))) ?_
      refine ev_leti (fun x2 ex2 => ?_)
      refine ev_st (pc' := 23) (L' := [xR a, xI p1, xI p2, xI 1, xI x2, xI y5, xU, xU]) (st' := []) (fun _ _ _ k => e_istore dL_folds_21 (i := 4) rfl (L' := [xR a, xI p1, xI p2, xI 1, xI x2, xI y5, xU, xU]) rfl k) ?_
      refine ev_letx (fun x3 ex3 => ?_)
      refine ev_st (pc' := 26) (L' := [xR a, xI p1, xI p2, xI 1, xI x2, xI x3, xU, xU]) (st' := []) (fun _ _ _ k => e_iinc dL_folds_23 (i := 5) rfl (x := y5) rfl (y := x3) ex3 (L' := [xR a, xI p1, xI p2, xI 1, xI x2, xI x3, xU, xU]) rfl k) ?_
      refine ev_st (pc' := 8) (L' := [xR a, xI p1, xI p2, xI 1, xI x2, xI x3, xU, xU]) (st' := []) (fun _ _ _ k => e_goto dL_folds_26 (tgt := 8) rfl k) ?_
      exact ih x2 x3
set_option maxRecDepth 20000 in
set_option maxHeartbeats 4000000 in
theorem lc_L_folds_32 {l : Launch} {g : xG} {d : Nat} {A : xA} {a : Nat} (h_a : sh 9 A a) (p1 : Int) (p2 : Int) {X : Int → Int → Int → xN → Option (Bool × xN)} (hX : ∀ (y3 : Int) (y4 : Int) (y5 : Int) (R : xN), Ev l g (d + 6) mL_folds 118 [xR a, xI p1, xU, xI y3, xU, xU, xU, xU] [] A R (fun v : Bool × xN => some (xI (xz v.1))) (fun v => v.2) (X y3 y4 y5 R)) (n : Nat) (y3 : Int) (y4 : Int) (y5 : Int) (R : xN) : Ev l g (d + 6) mL_folds 32 [xR a, xI p1, xI p2, xI y3, xI y4, xI y5, xU, xU] [] A R (fun v : Bool × xN => some (xI (xz v.1))) (fun v => v.2) (lp_L_folds_32 a p1 p2 n y3 y4 y5 R X) := by
  induction n generalizing y3 y4 y5 R with
  | zero => exact ev_none
  | succ n ih =>
    rw [lp_L_folds_32]
    refine ev_st (pc' := 35) (L' := [xR a, xI p1, xI p2, xI y3, xI y4, xI y5, xU, xU]) (st' := [xI p2, xI y5]) (fun _ _ _ k => e_iload dL_folds_32 (i := 5) (x := y5) rfl (e_iload_n dL_folds_34 rfl (i := 2) (x := p2) rfl k)) ?_
    refine ev_br2 (P := p2 ≤ y5) (pct := 118) (pcf := 38) (st' := []) (fun _ _ _ kt kf => e_cge dL_folds_35 (tgt := 118) rfl kt kf) (fun h6 => ?_) (fun h6 => ?_)
    · refine ev_st (pc' := 118) (L' := [xR a, xI p1, xU, xI y3, xU, xU, xU, xU]) (st' := []) (fun _ _ _ k => e_fg [2, 4, 5] k) ?_
      exact hX y3 y4 y5 R
    · refine ev_st (pc' := 39) (L' := [xR a, xI p1, xI p2, xI y3, xI y4, xI y5, xU, xU]) (st' := [xI y3]) (fun _ _ _ k => e_iload_n dL_folds_38 rfl (i := 3) (x := y3) rfl k) ?_
      refine ev_br2 (P := y3 = 0) (pct := 118) (pcf := 42) (st' := []) (fun _ _ _ kt kf => e_ifeq dL_folds_39 (tgt := 118) rfl kt kf) (fun h7 => ?_) (fun h7 => ?_)
      · refine ev_st (pc' := 118) (L' := [xR a, xI p1, xU, xI y3, xU, xU, xU, xU]) (st' := []) (fun _ _ _ k => e_fg [2, 4, 5] k) ?_
        exact hX y3 y4 y5 R
      · refine ev_st (pc' := 44) (L' := [xR a, xI p1, xI p2, xI y3, xI y4, xI y5, xU, xU]) (st' := [xI 3, xR a]) (fun _ _ _ k => e_aload_n dL_folds_42 rfl (i := 0) (x := a) rfl (e_iconst dL_folds_43 (k4 rfl) k)) ?_
        refine ev_callV (As := [xI 3]) (st := []) (fun v8 => [xI v8]) dL_folds_44 mlL_9 (kd9_0 h_a) rfl rfl rfl rfl rfl rfl (c_X9_count (d := d + 4) h_a 3) (fun _ => trivial) (fun _ => rfl) (fun v8 => ?_)
        refine ev_st (pc' := 51) (L' := [xR a, xI p1, xI p2, xI y3, xI y4, xI y5, xI v8, xU]) (st' := [xI 0, xR a]) (fun _ _ _ k => e_istore dL_folds_47 (i := 6) rfl (L' := [xR a, xI p1, xI p2, xI y3, xI y4, xI y5, xI v8, xU]) rfl (e_aload_n dL_folds_49 rfl (i := 0) (x := a) rfl (e_iconst dL_folds_50 (k4 rfl) k))) ?_
        refine ev_callV (As := [xI 0]) (st := []) (fun v9 => [xI v9]) dL_folds_51 mlL_15 (kd9_0 h_a) rfl rfl rfl rfl rfl rfl (c_X9_effort (d := d + 3) h_a 0) (fun _ => trivial) (fun _ => rfl) (fun v9 => ?_)
        refine ev_st (pc' := 60) (L' := [xR a, xI p1, xI p2, xI y3, xI y4, xI y5, xI v8, xI v9]) (st' := [xI y4, xI p1, xR a]) (fun _ _ _ k => e_istore dL_folds_54 (i := 7) rfl (L' := [xR a, xI p1, xI p2, xI y3, xI y4, xI y5, xI v8, xI v9]) rfl (e_aload_n dL_folds_56 rfl (i := 0) (x := a) rfl (e_iload_n dL_folds_57 rfl (i := 1) (x := p1) rfl (e_iload dL_folds_58 (i := 4) (x := y4) rfl k)))) ?_
        refine ev_chk (fun h10 => ?_)
        refine ev_st (pc' := 61) (L' := [xR a, xI p1, xI p2, xI y3, xI y4, xI y5, xI v8, xI v9]) (st' := [xI (w4 (Int.tdiv p1 y4)), xR a]) (fun _ _ _ k => e_idiv dL_folds_60 h10 k) ?_
        refine ev_st (pc' := 64) (L' := [xR a, xI p1, xI p2, xI y3, xI y4, xI y5, xI v8, xI v9]) (st' := [xI (Int.tmod (w4 (Int.tdiv p1 y4)) 10), xR a]) (fun _ _ _ k => e_bipush dL_folds_61 rfl (k4 rfl) (e_irem dL_folds_63 (by decide) k)) ?_
        refine ev_callV (As := [xI (Int.tmod (w4 (Int.tdiv p1 y4)) 10)]) (st := []) (fun v11 => [xI v11.1]) dL_folds_64 mlL_18 (kd9_0 h_a) rfl rfl rfl rfl rfl rfl (c_X9_fold (d := d) h_a (Int.tmod (w4 (Int.tdiv p1 y4)) 10)) (fun _ => trivial) (fun _ => rfl) (fun v11 => ?_)
        refine ev_st (pc' := 71) (L' := [xR a, xI p1, xI p2, xI y3, xI y4, xI y5, xI v8, xI v9]) (st' := [xI (w4 (2 * v8)), xI v11.1]) (fun _ _ _ k => e_iconst dL_folds_67 (k4 rfl) (e_iload dL_folds_68 (i := 6) (x := v8) rfl (e_imul dL_folds_70 k))) ?_
        refine ev_br2 (P := v11.1 = (w4 (2 * v8))) (pct := 74) (pcf := 103) (st' := []) (fun _ _ _ kt kf => e_cne dL_folds_71 (tgt := 103) rfl kt kf) (fun h12 => ?_) (fun h12 => ?_)
        · refine ev_st (pc' := 76) (L' := [xR a, xI p1, xI p2, xI y3, xI y4, xI y5, xI v8, xI v9]) (st' := [xI 0, xR a]) (fun _ _ _ k => e_aload_n dL_folds_74 rfl (i := 0) (x := a) rfl (e_iconst dL_folds_75 (k4 rfl) k)) ?_
          refine ev_callV (As := [xI 0]) (st := []) (fun v13 => [xI v13]) dL_folds_76 mlL_15 (kd9_0 h_a) rfl rfl rfl rfl rfl rfl (c_X9_effort (d := d + 3) h_a 0) (fun _ => trivial) (fun _ => rfl) (fun v13 => ?_)
          refine ev_st (pc' := 84) (L' := [xR a, xI p1, xI p2, xI y3, xI y4, xI y5, xI v8, xI v9]) (st' := [xI (w4 (v9 + v8)), xI v13]) (fun _ _ _ k => e_iload dL_folds_79 (i := 7) (x := v9) rfl (e_iload dL_folds_81 (i := 6) (x := v8) rfl (e_iadd dL_folds_83 k))) ?_
          refine ev_br2 (P := v13 = (w4 (v9 + v8))) (pct := 87) (pcf := 103) (st' := []) (fun _ _ _ kt kf => e_cne dL_folds_84 (tgt := 103) rfl kt kf) (fun h14 => ?_) (fun h14 => ?_)
          · refine ev_st (pc' := 89) (L' := [xR a, xI p1, xI p2, xI y3, xI y4, xI y5, xI v8, xI v9]) (st' := [xI 2, xR a]) (fun _ _ _ k => e_aload_n dL_folds_87 rfl (i := 0) (x := a) rfl (e_iconst dL_folds_88 (k4 rfl) k)) ?_
            refine ev_callV (As := [xI 2]) (st := []) (fun v15 => [xI v15]) dL_folds_89 mlL_9 (kd9_0 h_a) rfl rfl rfl rfl rfl rfl (c_X9_count (d := d + 4) h_a 2) (fun _ => trivial) (fun _ => rfl) (fun v15 => ?_)
            refine ev_st (pc' := 96) (L' := [xR a, xI p1, xI p2, xI y3, xI y4, xI y5, xI v8, xI v9]) (st' := [xI (w4 (y5 + 1)), xI v15]) (fun _ _ _ k => e_iload dL_folds_92 (i := 5) (x := y5) rfl (e_iconst dL_folds_94 (k4 rfl) (e_iadd dL_folds_95 k))) ?_
            refine ev_br2 (P := v15 = (w4 (y5 + 1))) (pct := 99) (pcf := 103) (st' := []) (fun _ _ _ kt kf => e_cne dL_folds_96 (tgt := 103) rfl kt kf) (fun h16 => ?_) (fun h16 => ?_)
            · refine ev_st (pc' := 110) (L' := [xR a, xI p1, xI p2, xI 1, xI y4, xI y5, xI v8, xI v9]) (st' := [xI (w4 (Int.tdiv y4 10))]) (fun _ _ _ k => e_iconst dL_folds_99 (k4 rfl) (e_goto dL_folds_100 (tgt := 104) rfl (e_istore_n dL_folds_104 rfl (i := 3) rfl (L' := [xR a, xI p1, xI p2, xI 1, xI y4, xI y5, xI v8, xI v9]) rfl (e_iload dL_folds_105 (i := 4) (x := y4) rfl (e_bipush dL_folds_107 rfl (k4 rfl) (e_idiv dL_folds_109 (by decide) k)))))) ?_
              refine ev_leti (fun x17 ex17 => ?_)
              refine ev_st (pc' := 112) (L' := [xR a, xI p1, xI p2, xI 1, xI x17, xI y5, xI v8, xI v9]) (st' := []) (fun _ _ _ k => e_istore dL_folds_110 (i := 4) rfl (L' := [xR a, xI p1, xI p2, xI 1, xI x17, xI y5, xI v8, xI v9]) rfl k) ?_
              refine ev_letx (fun x18 ex18 => ?_)
              refine ev_st (pc' := 115) (L' := [xR a, xI p1, xI p2, xI 1, xI x17, xI x18, xI v8, xI v9]) (st' := []) (fun _ _ _ k => e_iinc dL_folds_112 (i := 5) rfl (x := y5) rfl (y := x18) ex18 (L' := [xR a, xI p1, xI p2, xI 1, xI x17, xI x18, xI v8, xI v9]) rfl k) ?_
              refine ev_st (pc' := 32) (L' := [xR a, xI p1, xI p2, xI 1, xI x17, xI x18, xU, xU]) (st' := []) (fun _ _ _ k => e_goto dL_folds_115 (tgt := 32) rfl (e_fg [6, 7] k)) ?_
              exact ih 1 x17 x18 v11.2
            · exact ev_none
          · exact ev_none
        · exact ev_none
set_option maxRecDepth 20000 in
set_option maxHeartbeats 4000000 in
theorem c_L_folds {l : Launch} {g : xG} {d : Nat} {A : xA} {R : xN} {a : Nat} (h_a : sh 9 A a) (i1 : Int) (i2 : Int) : Ev l g (d + 6) mL_folds 0 [xR a, xI i1, xI i2, xU, xU, xU, xU, xU] [] A R (fun v : Bool × xN => some (xI (xz v.1))) (fun v => v.2) (f_L_folds a i1 i2 R) := by
  rw [f_L_folds]
  refine ev_st (pc' := 8) (L' := [xR a, xI i1, xI i2, xI 1, xI 1, xI 0, xU, xU]) (st' := []) (fun _ _ _ k => e_iconst dL_folds_0 (k4 rfl) (e_istore_n dL_folds_1 rfl (i := 3) rfl (L' := [xR a, xI i1, xI i2, xI 1, xU, xU, xU, xU]) rfl (e_iconst dL_folds_2 (k4 rfl) (e_istore dL_folds_3 (i := 4) rfl (L' := [xR a, xI i1, xI i2, xI 1, xI 1, xU, xU, xU]) rfl (e_iconst dL_folds_5 (k4 rfl) (e_istore dL_folds_6 (i := 5) rfl (L' := [xR a, xI i1, xI i2, xI 1, xI 1, xI 0, xU, xU]) rfl k)))))) ?_
  refine lc_L_folds_8 h_a i1 i2 R (fun z4 z5 => ?_) 6000 1 0
  refine ev_st (pc' := 32) (L' := [xR a, xI i1, xI i2, xI 1, xI z4, xI 0, xU, xU]) (st' := []) (fun _ _ _ k => e_iconst dL_folds_29 (k4 rfl) (e_istore dL_folds_30 (i := 5) rfl (L' := [xR a, xI i1, xI i2, xI 1, xI z4, xI 0, xU, xU]) rfl k)) ?_
  refine lc_L_folds_32 h_a i1 i2 (fun z19 z20 z21 R22 => ?_) 6000 1 z4 0 R
  refine ev_st (pc' := 119) (L' := [xR a, xI i1, xU, xI z19, xU, xU, xU, xU]) (st' := [xI z19]) (fun _ _ _ k => e_iload_n dL_folds_118 rfl (i := 3) (x := z19) rfl k) ?_
  refine ev_br2 (P := z19 = 0) (pct := 144) (pcf := 122) (st' := []) (fun _ _ _ kt kf => e_ifeq dL_folds_119 (tgt := 144) rfl kt kf) (fun h23 => ?_) (fun h23 => ?_)
  · exact ev_ret (e_iconst dL_folds_144 (k4 rfl) (e_iret dL_folds_145))
  · refine ev_st (pc' := 124) (L' := [xR a, xI i1, xU, xI z19, xU, xU, xU, xU]) (st' := [xI 4, xR a]) (fun _ _ _ k => e_aload_n dL_folds_122 rfl (i := 0) (x := a) rfl (e_iconst dL_folds_123 (k4 rfl) k)) ?_
    refine ev_callV (As := [xI 4]) (st := []) (fun v24 => [xI v24]) dL_folds_124 mlL_9 (kd9_0 h_a) rfl rfl rfl rfl rfl rfl (c_X9_count (d := d + 4) h_a 4) (fun _ => trivial) (fun _ => rfl) (fun v24 => ?_)
    refine ev_st (pc' := 128) (L' := [xR a, xI i1, xU, xI z19, xU, xU, xU, xU]) (st' := [xI i1, xI v24]) (fun _ _ _ k => e_iload_n dL_folds_127 rfl (i := 1) (x := i1) rfl k) ?_
    refine ev_br2 (P := v24 = i1) (pct := 131) (pcf := 144) (st' := []) (fun _ _ _ kt kf => e_cne dL_folds_128 (tgt := 144) rfl kt kf) (fun h25 => ?_) (fun h25 => ?_)
    · refine ev_st (pc' := 133) (L' := [xR a, xI i1, xU, xI z19, xU, xU, xU, xU]) (st' := [xI 5, xR a]) (fun _ _ _ k => e_aload_n dL_folds_131 rfl (i := 0) (x := a) rfl (e_iconst dL_folds_132 (k4 rfl) k)) ?_
      refine ev_callV (As := [xI 5]) (st := []) (fun v26 => [xI v26]) dL_folds_133 mlL_9 (kd9_0 h_a) rfl rfl rfl rfl rfl rfl (c_X9_count (d := d + 4) h_a 5) (fun _ => trivial) (fun _ => rfl) (fun v26 => ?_)
      refine ev_st (pc' := 137) (L' := [xR a, xI i1, xU, xI z19, xU, xU, xU, xU]) (st' := [xI 1, xI v26]) (fun _ _ _ k => e_iconst dL_folds_136 (k4 rfl) k) ?_
      refine ev_br2 (P := v26 = 1) (pct := 140) (pcf := 144) (st' := []) (fun _ _ _ kt kf => e_cne dL_folds_137 (tgt := 144) rfl kt kf) (fun h27 => ?_) (fun h27 => ?_)
      · exact ev_ret (e_iconst dL_folds_140 (k4 rfl) (e_goto dL_folds_141 (tgt := 145) rfl (e_iret dL_folds_145)))
      · exact ev_ret (e_iconst dL_folds_144 (k4 rfl) (e_iret dL_folds_145))
    · exact ev_ret (e_iconst dL_folds_144 (k4 rfl) (e_iret dL_folds_145))
def lp_L_isRead_8 (a : Nat) (p1 : Int) : Nat → Int → Int → Int → xN → (Int → Int → Int → xN → Option (Bool × xN)) → Option (Bool × xN)
  | 0, _, _, _, _, _ => none
  | n + 1, y2, y3, y4, R, X =>
    if (w4 (2 * p1)) ≤ y4 then
    X y2 y3 y4 R
    else
    if y2 = 0 then
    X y2 y3 y4 R
    else
    (f_X9_page a y4 5 R).bind (fun v3 =>
    if v3.1 = 1 then
    xlet (if 0 ≤ y3 then y3 else y4) (fun t5 =>
    (f_X9_page a y4 3 v3.2).bind (fun v6 =>
    if v6.1 = y4 then
    (f_X9_page a y4 4 v6.2).bind (fun v8 =>
    if v8.1 = 1 then
    (f_X9_pageOf a y4 v8.2).bind (fun v10 =>
    if v10 = y4 then
    (f_X9_opening a (w4 (Int.tdiv (w4 (y4 + 1)) 2)) 0 v8.2).bind (fun v12 =>
    if v3.1 = v12 then
    (f_X9_page a y4 6 v8.2).bind (fun v14 =>
    if v14.1 = (w4 (1 - v3.1)) then
    (f_X9_page a y4 0 v14.2).bind (fun v16 =>
    (f_X9_page a y4 1 v16.2).bind (fun v17 =>
    (f_X9_page a y4 2 v17.2).bind (fun v18 =>
    (f_X9_side a v16.1 v17.1 v18.1 0 v18.2).bind (fun v19 =>
    if v19 = y4 then
    if v3.1 = 1 then
    (f_X9_opening a (w4 (Int.tdiv (w4 (y4 + 1)) 2)) 1 v18.2).bind (fun v22 =>
    if v22 ≤ 0 then
    none
    else
    xlet (w4 (y4 + 1)) (fun x24 =>
    lp_L_isRead_8 a p1 n 1 t5 x24 v18.2 X))
    else
    (f_X9_opening a (w4 (Int.tdiv (w4 (y4 + 1)) 2)) 1 v18.2).bind (fun v25 =>
    if v25 ≤ 0 then
    xlet (w4 (y4 + 1)) (fun x27 =>
    lp_L_isRead_8 a p1 n 1 t5 x27 v18.2 X)
    else
    none)
    else
    none))))
    else
    none)
    else
    none)
    else
    none)
    else
    none)
    else
    none))
    else
    (f_X9_page a y4 3 v3.2).bind (fun v28 =>
    if v28.1 = y4 then
    (f_X9_page a y4 4 v28.2).bind (fun v30 =>
    if v30.1 = 1 then
    (f_X9_pageOf a y4 v30.2).bind (fun v32 =>
    if v32 = y4 then
    (f_X9_opening a (w4 (Int.tdiv (w4 (y4 + 1)) 2)) 0 v30.2).bind (fun v34 =>
    if v3.1 = v34 then
    (f_X9_page a y4 6 v30.2).bind (fun v36 =>
    if v36.1 = (w4 (1 - v3.1)) then
    (f_X9_page a y4 0 v36.2).bind (fun v38 =>
    (f_X9_page a y4 1 v38.2).bind (fun v39 =>
    (f_X9_page a y4 2 v39.2).bind (fun v40 =>
    (f_X9_side a v38.1 v39.1 v40.1 0 v40.2).bind (fun v41 =>
    if v41 = y4 then
    if v3.1 = 1 then
    (f_X9_opening a (w4 (Int.tdiv (w4 (y4 + 1)) 2)) 1 v40.2).bind (fun v44 =>
    if v44 ≤ 0 then
    none
    else
    xlet (w4 (y4 + 1)) (fun x46 =>
    lp_L_isRead_8 a p1 n 1 y3 x46 v40.2 X))
    else
    (f_X9_opening a (w4 (Int.tdiv (w4 (y4 + 1)) 2)) 1 v40.2).bind (fun v47 =>
    if v47 ≤ 0 then
    xlet (w4 (y4 + 1)) (fun x49 =>
    lp_L_isRead_8 a p1 n 1 y3 x49 v40.2 X)
    else
    none)
    else
    none))))
    else
    none)
    else
    none)
    else
    none)
    else
    none)
    else
    none))
def f_L_isRead (a : Nat) (i1 : Int) (R : xN) : Option (Bool × xN) :=
  lp_L_isRead_8 a i1 6000 1 (-9) 0 R (fun z50 z51 z52 R53 =>
  if z50 = 0 then
  some (false, R53)
  else
  (f_X9_reading a 0 R53).bind (fun v55 =>
  xlet (if 0 ≤ z51 then z51 else (w4 (2 * i1))) (fun t56 =>
  if v55 = t56 then
  (f_X9_reading a 1 R53).bind (fun v58 =>
  if v58 = z51 then
  (f_X9_reading a 2 R53).bind (fun v60 =>
  xlet (if 0 ≤ z51 then 1 else (-9)) (fun t61 =>
  if v60 = t61 then
  some (true, R53)
  else
  some (false, R53)))
  else
  some (false, R53))
  else
  some (false, R53))))
set_option maxRecDepth 20000 in
set_option maxHeartbeats 4000000 in
theorem lc_L_isRead_8 {l : Launch} {g : xG} {d : Nat} {A : xA} {a : Nat} (h_a : sh 9 A a) (p1 : Int) {X : Int → Int → Int → xN → Option (Bool × xN)} (hX : ∀ (y2 : Int) (y3 : Int) (y4 : Int) (R : xN), Ev l g (d + 7) mL_isRead 197 [xR a, xI p1, xI y2, xI y3, xU, xU] [] A R (fun v : Bool × xN => some (xI (xz v.1))) (fun v => v.2) (X y2 y3 y4 R)) (n : Nat) (y2 : Int) (y3 : Int) (y4 : Int) (R : xN) : Ev l g (d + 7) mL_isRead 8 [xR a, xI p1, xI y2, xI y3, xI y4, xU] [] A R (fun v : Bool × xN => some (xI (xz v.1))) (fun v => v.2) (lp_L_isRead_8 a p1 n y2 y3 y4 R X) := by
  induction n generalizing y2 y3 y4 R with
  | zero => exact ev_none
  | succ n ih =>
    rw [lp_L_isRead_8]
    refine ev_st (pc' := 13) (L' := [xR a, xI p1, xI y2, xI y3, xI y4, xU]) (st' := [xI (w4 (2 * p1)), xI y4]) (fun _ _ _ k => e_iload dL_isRead_8 (i := 4) (x := y4) rfl (e_iconst dL_isRead_10 (k4 rfl) (e_iload_n dL_isRead_11 rfl (i := 1) (x := p1) rfl (e_imul dL_isRead_12 k)))) ?_
    refine ev_br2 (P := (w4 (2 * p1)) ≤ y4) (pct := 197) (pcf := 16) (st' := []) (fun _ _ _ kt kf => e_cge dL_isRead_13 (tgt := 197) rfl kt kf) (fun h1 => ?_) (fun h1 => ?_)
    · refine ev_st (pc' := 197) (L' := [xR a, xI p1, xI y2, xI y3, xU, xU]) (st' := []) (fun _ _ _ k => e_fg [4] k) ?_
      exact hX y2 y3 y4 R
    · refine ev_st (pc' := 17) (L' := [xR a, xI p1, xI y2, xI y3, xI y4, xU]) (st' := [xI y2]) (fun _ _ _ k => e_iload_n dL_isRead_16 rfl (i := 2) (x := y2) rfl k) ?_
      refine ev_br2 (P := y2 = 0) (pct := 197) (pcf := 20) (st' := []) (fun _ _ _ kt kf => e_ifeq dL_isRead_17 (tgt := 197) rfl kt kf) (fun h2 => ?_) (fun h2 => ?_)
      · refine ev_st (pc' := 197) (L' := [xR a, xI p1, xI y2, xI y3, xU, xU]) (st' := []) (fun _ _ _ k => e_fg [4] k) ?_
        exact hX y2 y3 y4 R
      · refine ev_st (pc' := 24) (L' := [xR a, xI p1, xI y2, xI y3, xI y4, xU]) (st' := [xI 5, xI y4, xR a]) (fun _ _ _ k => e_aload_n dL_isRead_20 rfl (i := 0) (x := a) rfl (e_iload dL_isRead_21 (i := 4) (x := y4) rfl (e_iconst dL_isRead_23 (k4 rfl) k))) ?_
        refine ev_callV (As := [xI y4, xI 5]) (st := []) (fun v3 => [xI v3.1]) dL_isRead_24 mlL_21 (kd9_0 h_a) rfl rfl rfl rfl rfl rfl (c_X9_page (d := d) h_a y4 5) (fun _ => trivial) (fun _ => rfl) (fun v3 => ?_)
        refine ev_st (pc' := 32) (L' := [xR a, xI p1, xI y2, xI y3, xI y4, xI v3.1]) (st' := [xI 1, xI v3.1]) (fun _ _ _ k => e_istore dL_isRead_27 (i := 5) rfl (L' := [xR a, xI p1, xI y2, xI y3, xI y4, xI v3.1]) rfl (e_iload dL_isRead_29 (i := 5) (x := v3.1) rfl (e_iconst dL_isRead_31 (k4 rfl) k))) ?_
        refine ev_br2 (P := v3.1 = 1) (pct := 35) (pcf := 44) (st' := []) (fun _ _ _ kt kf => e_cne dL_isRead_32 (tgt := 44) rfl kt kf) (fun h4 => ?_) (fun h4 => ?_)
        · refine ev_st (pc' := 36) (L' := [xR a, xI p1, xI y2, xI y3, xI y4, xI v3.1]) (st' := [xI y3]) (fun _ _ _ k => e_iload_n dL_isRead_35 rfl (i := 3) (x := y3) rfl k) ?_
          refine ev_tern (P := 0 ≤ y3) (a := y3) (b := y4) (pct := 44) (pcf := 39) (J := 45) (st' := []) (fun _ _ _ kt kf => e_ifge dL_isRead_36 (tgt := 44) rfl kt kf) (fun _ _ _ k => e_iload_n dL_isRead_44 rfl (i := 3) (x := y3) rfl k) (fun _ _ _ k => e_iload dL_isRead_39 (i := 4) (x := y4) rfl (e_goto dL_isRead_41 (tgt := 45) rfl k)) (fun t5 et5 => ?_)
          refine ev_st (pc' := 50) (L' := [xR a, xI p1, xI y2, xI t5, xI y4, xI v3.1]) (st' := [xI 3, xI y4, xR a]) (fun _ _ _ k => e_istore_n dL_isRead_45 rfl (i := 3) rfl (L' := [xR a, xI p1, xI y2, xI t5, xI y4, xI v3.1]) rfl (e_aload_n dL_isRead_46 rfl (i := 0) (x := a) rfl (e_iload dL_isRead_47 (i := 4) (x := y4) rfl (e_iconst dL_isRead_49 (k4 rfl) k)))) ?_
          refine ev_callV (As := [xI y4, xI 3]) (st := []) (fun v6 => [xI v6.1]) dL_isRead_50 mlL_21 (kd9_0 h_a) rfl rfl rfl rfl rfl rfl (c_X9_page (d := d) h_a y4 3) (fun _ => trivial) (fun _ => rfl) (fun v6 => ?_)
          refine ev_st (pc' := 55) (L' := [xR a, xI p1, xI y2, xI t5, xI y4, xI v3.1]) (st' := [xI y4, xI v6.1]) (fun _ _ _ k => e_iload dL_isRead_53 (i := 4) (x := y4) rfl k) ?_
          refine ev_br2 (P := v6.1 = y4) (pct := 58) (pcf := 115) (st' := []) (fun _ _ _ kt kf => e_cne dL_isRead_55 (tgt := 115) rfl kt kf) (fun h7 => ?_) (fun h7 => ?_)
          · refine ev_st (pc' := 62) (L' := [xR a, xI p1, xI y2, xI t5, xI y4, xI v3.1]) (st' := [xI 4, xI y4, xR a]) (fun _ _ _ k => e_aload_n dL_isRead_58 rfl (i := 0) (x := a) rfl (e_iload dL_isRead_59 (i := 4) (x := y4) rfl (e_iconst dL_isRead_61 (k4 rfl) k))) ?_
            refine ev_callV (As := [xI y4, xI 4]) (st := []) (fun v8 => [xI v8.1]) dL_isRead_62 mlL_21 (kd9_0 h_a) rfl rfl rfl rfl rfl rfl (c_X9_page (d := d) h_a y4 4) (fun _ => trivial) (fun _ => rfl) (fun v8 => ?_)
            refine ev_st (pc' := 66) (L' := [xR a, xI p1, xI y2, xI t5, xI y4, xI v3.1]) (st' := [xI 1, xI v8.1]) (fun _ _ _ k => e_iconst dL_isRead_65 (k4 rfl) k) ?_
            refine ev_br2 (P := v8.1 = 1) (pct := 69) (pcf := 115) (st' := []) (fun _ _ _ kt kf => e_cne dL_isRead_66 (tgt := 115) rfl kt kf) (fun h9 => ?_) (fun h9 => ?_)
            · refine ev_st (pc' := 72) (L' := [xR a, xI p1, xI y2, xI t5, xI y4, xI v3.1]) (st' := [xI y4, xR a]) (fun _ _ _ k => e_aload_n dL_isRead_69 rfl (i := 0) (x := a) rfl (e_iload dL_isRead_70 (i := 4) (x := y4) rfl k)) ?_
              refine ev_callV (As := [xI y4]) (st := []) (fun v10 => [xI v10]) dL_isRead_72 mlL_25 (kd9_0 h_a) rfl rfl rfl rfl rfl rfl (c_X9_pageOf (d := d + 3) h_a y4) (fun _ => trivial) (fun _ => rfl) (fun v10 => ?_)
              refine ev_st (pc' := 77) (L' := [xR a, xI p1, xI y2, xI t5, xI y4, xI v3.1]) (st' := [xI y4, xI v10]) (fun _ _ _ k => e_iload dL_isRead_75 (i := 4) (x := y4) rfl k) ?_
              refine ev_br2 (P := v10 = y4) (pct := 80) (pcf := 115) (st' := []) (fun _ _ _ kt kf => e_cne dL_isRead_77 (tgt := 115) rfl kt kf) (fun h11 => ?_) (fun h11 => ?_)
              · refine ev_st (pc' := 90) (L' := [xR a, xI p1, xI y2, xI t5, xI y4, xI v3.1]) (st' := [xI 0, xI (w4 (Int.tdiv (w4 (y4 + 1)) 2)), xR a, xI v3.1]) (fun _ _ _ k => e_iload dL_isRead_80 (i := 5) (x := v3.1) rfl (e_aload_n dL_isRead_82 rfl (i := 0) (x := a) rfl (e_iload dL_isRead_83 (i := 4) (x := y4) rfl (e_iconst dL_isRead_85 (k4 rfl) (e_iadd dL_isRead_86 (e_iconst dL_isRead_87 (k4 rfl) (e_idiv dL_isRead_88 (by decide) (e_iconst dL_isRead_89 (k4 rfl) k)))))))) ?_
                refine ev_callV (As := [xI (w4 (Int.tdiv (w4 (y4 + 1)) 2)), xI 0]) (st := [xI v3.1]) (fun v12 => [xI v12, xI v3.1]) dL_isRead_90 mlL_28 (kd9_0 h_a) rfl rfl rfl rfl rfl rfl (c_X9_opening (d := d + 2) h_a (w4 (Int.tdiv (w4 (y4 + 1)) 2)) 0) (fun _ => trivial) (fun _ => rfl) (fun v12 => ?_)
                refine ev_br2 (P := v3.1 = v12) (pct := 96) (pcf := 115) (st' := []) (fun _ _ _ kt kf => e_cne dL_isRead_93 (tgt := 115) rfl kt kf) (fun h13 => ?_) (fun h13 => ?_)
                · refine ev_st (pc' := 101) (L' := [xR a, xI p1, xI y2, xI t5, xI y4, xI v3.1]) (st' := [xI 6, xI y4, xR a]) (fun _ _ _ k => e_aload_n dL_isRead_96 rfl (i := 0) (x := a) rfl (e_iload dL_isRead_97 (i := 4) (x := y4) rfl (e_bipush dL_isRead_99 rfl (k4 rfl) k))) ?_
                  refine ev_callV (As := [xI y4, xI 6]) (st := []) (fun v14 => [xI v14.1]) dL_isRead_101 mlL_21 (kd9_0 h_a) rfl rfl rfl rfl rfl rfl (c_X9_page (d := d) h_a y4 6) (fun _ => trivial) (fun _ => rfl) (fun v14 => ?_)
                  refine ev_st (pc' := 108) (L' := [xR a, xI p1, xI y2, xI t5, xI y4, xI v3.1]) (st' := [xI (w4 (1 - v3.1)), xI v14.1]) (fun _ _ _ k => e_iconst dL_isRead_104 (k4 rfl) (e_iload dL_isRead_105 (i := 5) (x := v3.1) rfl (e_isub dL_isRead_107 k))) ?_
                  refine ev_br2 (P := v14.1 = (w4 (1 - v3.1))) (pct := 111) (pcf := 115) (st' := []) (fun _ _ _ kt kf => e_cne dL_isRead_108 (tgt := 115) rfl kt kf) (fun h15 => ?_) (fun h15 => ?_)
                  · refine ev_st (pc' := 121) (L' := [xR a, xI p1, xI 1, xI t5, xI y4, xI v3.1]) (st' := []) (fun _ _ _ k => e_iconst dL_isRead_111 (k4 rfl) (e_goto dL_isRead_112 (tgt := 116) rfl (e_istore_n dL_isRead_116 rfl (i := 2) rfl (L' := [xR a, xI p1, xI 1, xI t5, xI y4, xI v3.1]) rfl (e_iload_n dL_isRead_117 rfl (i := 2) (x := 1) rfl (e_ifeqF dL_isRead_118 (tgt := 189) rfl (by decide) k))))) ?_
                    refine ev_st (pc' := 126) (L' := [xR a, xI p1, xI 1, xI t5, xI y4, xI v3.1]) (st' := [xI 0, xI y4, xR a, xR a]) (fun _ _ _ k => e_aload_n dL_isRead_121 rfl (i := 0) (x := a) rfl (e_aload_n dL_isRead_122 rfl (i := 0) (x := a) rfl (e_iload dL_isRead_123 (i := 4) (x := y4) rfl (e_iconst dL_isRead_125 (k4 rfl) k)))) ?_
                    refine ev_callV (As := [xI y4, xI 0]) (st := [xR a]) (fun v16 => [xI v16.1, xR a]) dL_isRead_126 mlL_21 (kd9_0 h_a) rfl rfl rfl rfl rfl rfl (c_X9_page (d := d) h_a y4 0) (fun _ => trivial) (fun _ => rfl) (fun v16 => ?_)
                    refine ev_st (pc' := 133) (L' := [xR a, xI p1, xI 1, xI t5, xI y4, xI v3.1]) (st' := [xI 1, xI y4, xR a, xI v16.1, xR a]) (fun _ _ _ k => e_aload_n dL_isRead_129 rfl (i := 0) (x := a) rfl (e_iload dL_isRead_130 (i := 4) (x := y4) rfl (e_iconst dL_isRead_132 (k4 rfl) k))) ?_
                    refine ev_callV (As := [xI y4, xI 1]) (st := [xI v16.1, xR a]) (fun v17 => [xI v17.1, xI v16.1, xR a]) dL_isRead_133 mlL_21 (kd9_0 h_a) rfl rfl rfl rfl rfl rfl (c_X9_page (d := d) h_a y4 1) (fun _ => trivial) (fun _ => rfl) (fun v17 => ?_)
                    refine ev_st (pc' := 140) (L' := [xR a, xI p1, xI 1, xI t5, xI y4, xI v3.1]) (st' := [xI 2, xI y4, xR a, xI v17.1, xI v16.1, xR a]) (fun _ _ _ k => e_aload_n dL_isRead_136 rfl (i := 0) (x := a) rfl (e_iload dL_isRead_137 (i := 4) (x := y4) rfl (e_iconst dL_isRead_139 (k4 rfl) k))) ?_
                    refine ev_callV (As := [xI y4, xI 2]) (st := [xI v17.1, xI v16.1, xR a]) (fun v18 => [xI v18.1, xI v17.1, xI v16.1, xR a]) dL_isRead_140 mlL_21 (kd9_0 h_a) rfl rfl rfl rfl rfl rfl (c_X9_page (d := d) h_a y4 2) (fun _ => trivial) (fun _ => rfl) (fun v18 => ?_)
                    refine ev_st (pc' := 144) (L' := [xR a, xI p1, xI 1, xI t5, xI y4, xI v3.1]) (st' := [xI 0, xI v18.1, xI v17.1, xI v16.1, xR a]) (fun _ _ _ k => e_iconst dL_isRead_143 (k4 rfl) k) ?_
                    refine ev_callV (As := [xI v16.1, xI v17.1, xI v18.1, xI 0]) (st := []) (fun v19 => [xI v19]) dL_isRead_144 mlL_31 (kd9_0 h_a) rfl rfl rfl rfl rfl rfl (c_X9_side (d := d + 4) h_a v16.1 v17.1 v18.1 0) (fun _ => trivial) (fun _ => rfl) (fun v19 => ?_)
                    refine ev_st (pc' := 149) (L' := [xR a, xI p1, xI 1, xI t5, xI y4, xI v3.1]) (st' := [xI y4, xI v19]) (fun _ _ _ k => e_iload dL_isRead_147 (i := 4) (x := y4) rfl k) ?_
                    refine ev_br2 (P := v19 = y4) (pct := 152) (pcf := 189) (st' := []) (fun _ _ _ kt kf => e_cne dL_isRead_149 (tgt := 189) rfl kt kf) (fun h20 => ?_) (fun h20 => ?_)
                    · refine ev_st (pc' := 155) (L' := [xR a, xI p1, xI 1, xI t5, xI y4, xI v3.1]) (st' := [xI 1, xI v3.1]) (fun _ _ _ k => e_iload dL_isRead_152 (i := 5) (x := v3.1) rfl (e_iconst dL_isRead_154 (k4 rfl) k)) ?_
                      refine ev_br2 (P := v3.1 = 1) (pct := 158) (pcf := 162) (st' := []) (fun _ _ _ kt kf => e_cne dL_isRead_155 (tgt := 162) rfl kt kf) (fun h21 => ?_) (fun h21 => ?_)
                      · refine ev_st (pc' := 171) (L' := [xR a, xI p1, xI 1, xI t5, xI y4, xI v3.1]) (st' := [xI 1, xI (w4 (Int.tdiv (w4 (y4 + 1)) 2)), xR a, xI 1]) (fun _ _ _ k => e_iconst dL_isRead_158 (k4 rfl) (e_goto dL_isRead_159 (tgt := 163) rfl (e_aload_n dL_isRead_163 rfl (i := 0) (x := a) rfl (e_iload dL_isRead_164 (i := 4) (x := y4) rfl (e_iconst dL_isRead_166 (k4 rfl) (e_iadd dL_isRead_167 (e_iconst dL_isRead_168 (k4 rfl) (e_idiv dL_isRead_169 (by decide) (e_iconst dL_isRead_170 (k4 rfl) k))))))))) ?_
                        refine ev_callV (As := [xI (w4 (Int.tdiv (w4 (y4 + 1)) 2)), xI 1]) (st := [xI 1]) (fun v22 => [xI v22, xI 1]) dL_isRead_171 mlL_28 (kd9_0 h_a) rfl rfl rfl rfl rfl rfl (c_X9_opening (d := d + 2) h_a (w4 (Int.tdiv (w4 (y4 + 1)) 2)) 1) (fun _ => trivial) (fun _ => rfl) (fun v22 => ?_)
                        refine ev_br2 (P := v22 ≤ 0) (pct := 181) (pcf := 177) (st' := [xI 1]) (fun _ _ _ kt kf => e_ifle dL_isRead_174 (tgt := 181) rfl kt kf) (fun h23 => ?_) (fun h23 => ?_)
                        · refine ev_st (pc' := 189) (L' := [xR a, xI p1, xI 1, xI t5, xI y4, xI v3.1]) (st' := []) (fun _ _ _ k => e_iconst dL_isRead_181 (k4 rfl) (e_cneT dL_isRead_182 (tgt := 189) rfl (by decide) k)) ?_
                          exact ev_none
                        · refine ev_st (pc' := 185) (L' := [xR a, xI p1, xI 1, xI t5, xI y4, xI v3.1]) (st' := []) (fun _ _ _ k => e_iconst dL_isRead_177 (k4 rfl) (e_goto dL_isRead_178 (tgt := 182) rfl (e_cneF dL_isRead_182 (tgt := 189) rfl (by decide) k))) ?_
                          refine ev_st (pc' := 191) (L' := [xR a, xI p1, xI 1, xI t5, xI y4, xI v3.1]) (st' := []) (fun _ _ _ k => e_iconst dL_isRead_185 (k4 rfl) (e_goto dL_isRead_186 (tgt := 190) rfl (e_istore_n dL_isRead_190 rfl (i := 2) rfl (L' := [xR a, xI p1, xI 1, xI t5, xI y4, xI v3.1]) rfl k))) ?_
                          refine ev_letx (fun x24 ex24 => ?_)
                          refine ev_st (pc' := 194) (L' := [xR a, xI p1, xI 1, xI t5, xI x24, xI v3.1]) (st' := []) (fun _ _ _ k => e_iinc dL_isRead_191 (i := 4) rfl (x := y4) rfl (y := x24) ex24 (L' := [xR a, xI p1, xI 1, xI t5, xI x24, xI v3.1]) rfl k) ?_
                          refine ev_st (pc' := 8) (L' := [xR a, xI p1, xI 1, xI t5, xI x24, xU]) (st' := []) (fun _ _ _ k => e_goto dL_isRead_194 (tgt := 8) rfl (e_fg [5] k)) ?_
                          exact ih 1 t5 x24 v18.2
                      · refine ev_st (pc' := 171) (L' := [xR a, xI p1, xI 1, xI t5, xI y4, xI v3.1]) (st' := [xI 1, xI (w4 (Int.tdiv (w4 (y4 + 1)) 2)), xR a, xI 0]) (fun _ _ _ k => e_iconst dL_isRead_162 (k4 rfl) (e_aload_n dL_isRead_163 rfl (i := 0) (x := a) rfl (e_iload dL_isRead_164 (i := 4) (x := y4) rfl (e_iconst dL_isRead_166 (k4 rfl) (e_iadd dL_isRead_167 (e_iconst dL_isRead_168 (k4 rfl) (e_idiv dL_isRead_169 (by decide) (e_iconst dL_isRead_170 (k4 rfl) k)))))))) ?_
                        refine ev_callV (As := [xI (w4 (Int.tdiv (w4 (y4 + 1)) 2)), xI 1]) (st := [xI 0]) (fun v25 => [xI v25, xI 0]) dL_isRead_171 mlL_28 (kd9_0 h_a) rfl rfl rfl rfl rfl rfl (c_X9_opening (d := d + 2) h_a (w4 (Int.tdiv (w4 (y4 + 1)) 2)) 1) (fun _ => trivial) (fun _ => rfl) (fun v25 => ?_)
                        refine ev_br2 (P := v25 ≤ 0) (pct := 181) (pcf := 177) (st' := [xI 0]) (fun _ _ _ kt kf => e_ifle dL_isRead_174 (tgt := 181) rfl kt kf) (fun h26 => ?_) (fun h26 => ?_)
                        · refine ev_st (pc' := 185) (L' := [xR a, xI p1, xI 1, xI t5, xI y4, xI v3.1]) (st' := []) (fun _ _ _ k => e_iconst dL_isRead_181 (k4 rfl) (e_cneF dL_isRead_182 (tgt := 189) rfl (by decide) k)) ?_
                          refine ev_st (pc' := 191) (L' := [xR a, xI p1, xI 1, xI t5, xI y4, xI v3.1]) (st' := []) (fun _ _ _ k => e_iconst dL_isRead_185 (k4 rfl) (e_goto dL_isRead_186 (tgt := 190) rfl (e_istore_n dL_isRead_190 rfl (i := 2) rfl (L' := [xR a, xI p1, xI 1, xI t5, xI y4, xI v3.1]) rfl k))) ?_
                          refine ev_letx (fun x27 ex27 => ?_)
                          refine ev_st (pc' := 194) (L' := [xR a, xI p1, xI 1, xI t5, xI x27, xI v3.1]) (st' := []) (fun _ _ _ k => e_iinc dL_isRead_191 (i := 4) rfl (x := y4) rfl (y := x27) ex27 (L' := [xR a, xI p1, xI 1, xI t5, xI x27, xI v3.1]) rfl k) ?_
                          refine ev_st (pc' := 8) (L' := [xR a, xI p1, xI 1, xI t5, xI x27, xU]) (st' := []) (fun _ _ _ k => e_goto dL_isRead_194 (tgt := 8) rfl (e_fg [5] k)) ?_
                          exact ih 1 t5 x27 v18.2
                        · refine ev_st (pc' := 189) (L' := [xR a, xI p1, xI 1, xI t5, xI y4, xI v3.1]) (st' := []) (fun _ _ _ k => e_iconst dL_isRead_177 (k4 rfl) (e_goto dL_isRead_178 (tgt := 182) rfl (e_cneT dL_isRead_182 (tgt := 189) rfl (by decide) k))) ?_
                          exact ev_none
                    · exact ev_none
                  · exact ev_none
                · exact ev_none
              · exact ev_none
            · exact ev_none
          · exact ev_none
        · refine ev_st (pc' := 50) (L' := [xR a, xI p1, xI y2, xI y3, xI y4, xI v3.1]) (st' := [xI 3, xI y4, xR a]) (fun _ _ _ k => e_iload_n dL_isRead_44 rfl (i := 3) (x := y3) rfl (e_istore_n dL_isRead_45 rfl (i := 3) rfl (L' := [xR a, xI p1, xI y2, xI y3, xI y4, xI v3.1]) rfl (e_aload_n dL_isRead_46 rfl (i := 0) (x := a) rfl (e_iload dL_isRead_47 (i := 4) (x := y4) rfl (e_iconst dL_isRead_49 (k4 rfl) k))))) ?_
          refine ev_callV (As := [xI y4, xI 3]) (st := []) (fun v28 => [xI v28.1]) dL_isRead_50 mlL_21 (kd9_0 h_a) rfl rfl rfl rfl rfl rfl (c_X9_page (d := d) h_a y4 3) (fun _ => trivial) (fun _ => rfl) (fun v28 => ?_)
          refine ev_st (pc' := 55) (L' := [xR a, xI p1, xI y2, xI y3, xI y4, xI v3.1]) (st' := [xI y4, xI v28.1]) (fun _ _ _ k => e_iload dL_isRead_53 (i := 4) (x := y4) rfl k) ?_
          refine ev_br2 (P := v28.1 = y4) (pct := 58) (pcf := 115) (st' := []) (fun _ _ _ kt kf => e_cne dL_isRead_55 (tgt := 115) rfl kt kf) (fun h29 => ?_) (fun h29 => ?_)
          · refine ev_st (pc' := 62) (L' := [xR a, xI p1, xI y2, xI y3, xI y4, xI v3.1]) (st' := [xI 4, xI y4, xR a]) (fun _ _ _ k => e_aload_n dL_isRead_58 rfl (i := 0) (x := a) rfl (e_iload dL_isRead_59 (i := 4) (x := y4) rfl (e_iconst dL_isRead_61 (k4 rfl) k))) ?_
            refine ev_callV (As := [xI y4, xI 4]) (st := []) (fun v30 => [xI v30.1]) dL_isRead_62 mlL_21 (kd9_0 h_a) rfl rfl rfl rfl rfl rfl (c_X9_page (d := d) h_a y4 4) (fun _ => trivial) (fun _ => rfl) (fun v30 => ?_)
            refine ev_st (pc' := 66) (L' := [xR a, xI p1, xI y2, xI y3, xI y4, xI v3.1]) (st' := [xI 1, xI v30.1]) (fun _ _ _ k => e_iconst dL_isRead_65 (k4 rfl) k) ?_
            refine ev_br2 (P := v30.1 = 1) (pct := 69) (pcf := 115) (st' := []) (fun _ _ _ kt kf => e_cne dL_isRead_66 (tgt := 115) rfl kt kf) (fun h31 => ?_) (fun h31 => ?_)
            · refine ev_st (pc' := 72) (L' := [xR a, xI p1, xI y2, xI y3, xI y4, xI v3.1]) (st' := [xI y4, xR a]) (fun _ _ _ k => e_aload_n dL_isRead_69 rfl (i := 0) (x := a) rfl (e_iload dL_isRead_70 (i := 4) (x := y4) rfl k)) ?_
              refine ev_callV (As := [xI y4]) (st := []) (fun v32 => [xI v32]) dL_isRead_72 mlL_25 (kd9_0 h_a) rfl rfl rfl rfl rfl rfl (c_X9_pageOf (d := d + 3) h_a y4) (fun _ => trivial) (fun _ => rfl) (fun v32 => ?_)
              refine ev_st (pc' := 77) (L' := [xR a, xI p1, xI y2, xI y3, xI y4, xI v3.1]) (st' := [xI y4, xI v32]) (fun _ _ _ k => e_iload dL_isRead_75 (i := 4) (x := y4) rfl k) ?_
              refine ev_br2 (P := v32 = y4) (pct := 80) (pcf := 115) (st' := []) (fun _ _ _ kt kf => e_cne dL_isRead_77 (tgt := 115) rfl kt kf) (fun h33 => ?_) (fun h33 => ?_)
              · refine ev_st (pc' := 90) (L' := [xR a, xI p1, xI y2, xI y3, xI y4, xI v3.1]) (st' := [xI 0, xI (w4 (Int.tdiv (w4 (y4 + 1)) 2)), xR a, xI v3.1]) (fun _ _ _ k => e_iload dL_isRead_80 (i := 5) (x := v3.1) rfl (e_aload_n dL_isRead_82 rfl (i := 0) (x := a) rfl (e_iload dL_isRead_83 (i := 4) (x := y4) rfl (e_iconst dL_isRead_85 (k4 rfl) (e_iadd dL_isRead_86 (e_iconst dL_isRead_87 (k4 rfl) (e_idiv dL_isRead_88 (by decide) (e_iconst dL_isRead_89 (k4 rfl) k)))))))) ?_
                refine ev_callV (As := [xI (w4 (Int.tdiv (w4 (y4 + 1)) 2)), xI 0]) (st := [xI v3.1]) (fun v34 => [xI v34, xI v3.1]) dL_isRead_90 mlL_28 (kd9_0 h_a) rfl rfl rfl rfl rfl rfl (c_X9_opening (d := d + 2) h_a (w4 (Int.tdiv (w4 (y4 + 1)) 2)) 0) (fun _ => trivial) (fun _ => rfl) (fun v34 => ?_)
                refine ev_br2 (P := v3.1 = v34) (pct := 96) (pcf := 115) (st' := []) (fun _ _ _ kt kf => e_cne dL_isRead_93 (tgt := 115) rfl kt kf) (fun h35 => ?_) (fun h35 => ?_)
                · refine ev_st (pc' := 101) (L' := [xR a, xI p1, xI y2, xI y3, xI y4, xI v3.1]) (st' := [xI 6, xI y4, xR a]) (fun _ _ _ k => e_aload_n dL_isRead_96 rfl (i := 0) (x := a) rfl (e_iload dL_isRead_97 (i := 4) (x := y4) rfl (e_bipush dL_isRead_99 rfl (k4 rfl) k))) ?_
                  refine ev_callV (As := [xI y4, xI 6]) (st := []) (fun v36 => [xI v36.1]) dL_isRead_101 mlL_21 (kd9_0 h_a) rfl rfl rfl rfl rfl rfl (c_X9_page (d := d) h_a y4 6) (fun _ => trivial) (fun _ => rfl) (fun v36 => ?_)
                  refine ev_st (pc' := 108) (L' := [xR a, xI p1, xI y2, xI y3, xI y4, xI v3.1]) (st' := [xI (w4 (1 - v3.1)), xI v36.1]) (fun _ _ _ k => e_iconst dL_isRead_104 (k4 rfl) (e_iload dL_isRead_105 (i := 5) (x := v3.1) rfl (e_isub dL_isRead_107 k))) ?_
                  refine ev_br2 (P := v36.1 = (w4 (1 - v3.1))) (pct := 111) (pcf := 115) (st' := []) (fun _ _ _ kt kf => e_cne dL_isRead_108 (tgt := 115) rfl kt kf) (fun h37 => ?_) (fun h37 => ?_)
                  · refine ev_st (pc' := 121) (L' := [xR a, xI p1, xI 1, xI y3, xI y4, xI v3.1]) (st' := []) (fun _ _ _ k => e_iconst dL_isRead_111 (k4 rfl) (e_goto dL_isRead_112 (tgt := 116) rfl (e_istore_n dL_isRead_116 rfl (i := 2) rfl (L' := [xR a, xI p1, xI 1, xI y3, xI y4, xI v3.1]) rfl (e_iload_n dL_isRead_117 rfl (i := 2) (x := 1) rfl (e_ifeqF dL_isRead_118 (tgt := 189) rfl (by decide) k))))) ?_
                    refine ev_st (pc' := 126) (L' := [xR a, xI p1, xI 1, xI y3, xI y4, xI v3.1]) (st' := [xI 0, xI y4, xR a, xR a]) (fun _ _ _ k => e_aload_n dL_isRead_121 rfl (i := 0) (x := a) rfl (e_aload_n dL_isRead_122 rfl (i := 0) (x := a) rfl (e_iload dL_isRead_123 (i := 4) (x := y4) rfl (e_iconst dL_isRead_125 (k4 rfl) k)))) ?_
                    refine ev_callV (As := [xI y4, xI 0]) (st := [xR a]) (fun v38 => [xI v38.1, xR a]) dL_isRead_126 mlL_21 (kd9_0 h_a) rfl rfl rfl rfl rfl rfl (c_X9_page (d := d) h_a y4 0) (fun _ => trivial) (fun _ => rfl) (fun v38 => ?_)
                    refine ev_st (pc' := 133) (L' := [xR a, xI p1, xI 1, xI y3, xI y4, xI v3.1]) (st' := [xI 1, xI y4, xR a, xI v38.1, xR a]) (fun _ _ _ k => e_aload_n dL_isRead_129 rfl (i := 0) (x := a) rfl (e_iload dL_isRead_130 (i := 4) (x := y4) rfl (e_iconst dL_isRead_132 (k4 rfl) k))) ?_
                    refine ev_callV (As := [xI y4, xI 1]) (st := [xI v38.1, xR a]) (fun v39 => [xI v39.1, xI v38.1, xR a]) dL_isRead_133 mlL_21 (kd9_0 h_a) rfl rfl rfl rfl rfl rfl (c_X9_page (d := d) h_a y4 1) (fun _ => trivial) (fun _ => rfl) (fun v39 => ?_)
                    refine ev_st (pc' := 140) (L' := [xR a, xI p1, xI 1, xI y3, xI y4, xI v3.1]) (st' := [xI 2, xI y4, xR a, xI v39.1, xI v38.1, xR a]) (fun _ _ _ k => e_aload_n dL_isRead_136 rfl (i := 0) (x := a) rfl (e_iload dL_isRead_137 (i := 4) (x := y4) rfl (e_iconst dL_isRead_139 (k4 rfl) k))) ?_
                    refine ev_callV (As := [xI y4, xI 2]) (st := [xI v39.1, xI v38.1, xR a]) (fun v40 => [xI v40.1, xI v39.1, xI v38.1, xR a]) dL_isRead_140 mlL_21 (kd9_0 h_a) rfl rfl rfl rfl rfl rfl (c_X9_page (d := d) h_a y4 2) (fun _ => trivial) (fun _ => rfl) (fun v40 => ?_)
                    refine ev_st (pc' := 144) (L' := [xR a, xI p1, xI 1, xI y3, xI y4, xI v3.1]) (st' := [xI 0, xI v40.1, xI v39.1, xI v38.1, xR a]) (fun _ _ _ k => e_iconst dL_isRead_143 (k4 rfl) k) ?_
                    refine ev_callV (As := [xI v38.1, xI v39.1, xI v40.1, xI 0]) (st := []) (fun v41 => [xI v41]) dL_isRead_144 mlL_31 (kd9_0 h_a) rfl rfl rfl rfl rfl rfl (c_X9_side (d := d + 4) h_a v38.1 v39.1 v40.1 0) (fun _ => trivial) (fun _ => rfl) (fun v41 => ?_)
                    refine ev_st (pc' := 149) (L' := [xR a, xI p1, xI 1, xI y3, xI y4, xI v3.1]) (st' := [xI y4, xI v41]) (fun _ _ _ k => e_iload dL_isRead_147 (i := 4) (x := y4) rfl k) ?_
                    refine ev_br2 (P := v41 = y4) (pct := 152) (pcf := 189) (st' := []) (fun _ _ _ kt kf => e_cne dL_isRead_149 (tgt := 189) rfl kt kf) (fun h42 => ?_) (fun h42 => ?_)
                    · refine ev_st (pc' := 155) (L' := [xR a, xI p1, xI 1, xI y3, xI y4, xI v3.1]) (st' := [xI 1, xI v3.1]) (fun _ _ _ k => e_iload dL_isRead_152 (i := 5) (x := v3.1) rfl (e_iconst dL_isRead_154 (k4 rfl) k)) ?_
                      refine ev_br2 (P := v3.1 = 1) (pct := 158) (pcf := 162) (st' := []) (fun _ _ _ kt kf => e_cne dL_isRead_155 (tgt := 162) rfl kt kf) (fun h43 => ?_) (fun h43 => ?_)
                      · refine ev_st (pc' := 171) (L' := [xR a, xI p1, xI 1, xI y3, xI y4, xI v3.1]) (st' := [xI 1, xI (w4 (Int.tdiv (w4 (y4 + 1)) 2)), xR a, xI 1]) (fun _ _ _ k => e_iconst dL_isRead_158 (k4 rfl) (e_goto dL_isRead_159 (tgt := 163) rfl (e_aload_n dL_isRead_163 rfl (i := 0) (x := a) rfl (e_iload dL_isRead_164 (i := 4) (x := y4) rfl (e_iconst dL_isRead_166 (k4 rfl) (e_iadd dL_isRead_167 (e_iconst dL_isRead_168 (k4 rfl) (e_idiv dL_isRead_169 (by decide) (e_iconst dL_isRead_170 (k4 rfl) k))))))))) ?_
                        refine ev_callV (As := [xI (w4 (Int.tdiv (w4 (y4 + 1)) 2)), xI 1]) (st := [xI 1]) (fun v44 => [xI v44, xI 1]) dL_isRead_171 mlL_28 (kd9_0 h_a) rfl rfl rfl rfl rfl rfl (c_X9_opening (d := d + 2) h_a (w4 (Int.tdiv (w4 (y4 + 1)) 2)) 1) (fun _ => trivial) (fun _ => rfl) (fun v44 => ?_)
                        refine ev_br2 (P := v44 ≤ 0) (pct := 181) (pcf := 177) (st' := [xI 1]) (fun _ _ _ kt kf => e_ifle dL_isRead_174 (tgt := 181) rfl kt kf) (fun h45 => ?_) (fun h45 => ?_)
                        · refine ev_st (pc' := 189) (L' := [xR a, xI p1, xI 1, xI y3, xI y4, xI v3.1]) (st' := []) (fun _ _ _ k => e_iconst dL_isRead_181 (k4 rfl) (e_cneT dL_isRead_182 (tgt := 189) rfl (by decide) k)) ?_
                          exact ev_none
                        · refine ev_st (pc' := 185) (L' := [xR a, xI p1, xI 1, xI y3, xI y4, xI v3.1]) (st' := []) (fun _ _ _ k => e_iconst dL_isRead_177 (k4 rfl) (e_goto dL_isRead_178 (tgt := 182) rfl (e_cneF dL_isRead_182 (tgt := 189) rfl (by decide) k))) ?_
                          refine ev_st (pc' := 191) (L' := [xR a, xI p1, xI 1, xI y3, xI y4, xI v3.1]) (st' := []) (fun _ _ _ k => e_iconst dL_isRead_185 (k4 rfl) (e_goto dL_isRead_186 (tgt := 190) rfl (e_istore_n dL_isRead_190 rfl (i := 2) rfl (L' := [xR a, xI p1, xI 1, xI y3, xI y4, xI v3.1]) rfl k))) ?_
                          refine ev_letx (fun x46 ex46 => ?_)
                          refine ev_st (pc' := 194) (L' := [xR a, xI p1, xI 1, xI y3, xI x46, xI v3.1]) (st' := []) (fun _ _ _ k => e_iinc dL_isRead_191 (i := 4) rfl (x := y4) rfl (y := x46) ex46 (L' := [xR a, xI p1, xI 1, xI y3, xI x46, xI v3.1]) rfl k) ?_
                          refine ev_st (pc' := 8) (L' := [xR a, xI p1, xI 1, xI y3, xI x46, xU]) (st' := []) (fun _ _ _ k => e_goto dL_isRead_194 (tgt := 8) rfl (e_fg [5] k)) ?_
                          exact ih 1 y3 x46 v40.2
                      · refine ev_st (pc' := 171) (L' := [xR a, xI p1, xI 1, xI y3, xI y4, xI v3.1]) (st' := [xI 1, xI (w4 (Int.tdiv (w4 (y4 + 1)) 2)), xR a, xI 0]) (fun _ _ _ k => e_iconst dL_isRead_162 (k4 rfl) (e_aload_n dL_isRead_163 rfl (i := 0) (x := a) rfl (e_iload dL_isRead_164 (i := 4) (x := y4) rfl (e_iconst dL_isRead_166 (k4 rfl) (e_iadd dL_isRead_167 (e_iconst dL_isRead_168 (k4 rfl) (e_idiv dL_isRead_169 (by decide) (e_iconst dL_isRead_170 (k4 rfl) k)))))))) ?_
                        refine ev_callV (As := [xI (w4 (Int.tdiv (w4 (y4 + 1)) 2)), xI 1]) (st := [xI 0]) (fun v47 => [xI v47, xI 0]) dL_isRead_171 mlL_28 (kd9_0 h_a) rfl rfl rfl rfl rfl rfl (c_X9_opening (d := d + 2) h_a (w4 (Int.tdiv (w4 (y4 + 1)) 2)) 1) (fun _ => trivial) (fun _ => rfl) (fun v47 => ?_)
                        refine ev_br2 (P := v47 ≤ 0) (pct := 181) (pcf := 177) (st' := [xI 0]) (fun _ _ _ kt kf => e_ifle dL_isRead_174 (tgt := 181) rfl kt kf) (fun h48 => ?_) (fun h48 => ?_)
                        · refine ev_st (pc' := 185) (L' := [xR a, xI p1, xI 1, xI y3, xI y4, xI v3.1]) (st' := []) (fun _ _ _ k => e_iconst dL_isRead_181 (k4 rfl) (e_cneF dL_isRead_182 (tgt := 189) rfl (by decide) k)) ?_
                          refine ev_st (pc' := 191) (L' := [xR a, xI p1, xI 1, xI y3, xI y4, xI v3.1]) (st' := []) (fun _ _ _ k => e_iconst dL_isRead_185 (k4 rfl) (e_goto dL_isRead_186 (tgt := 190) rfl (e_istore_n dL_isRead_190 rfl (i := 2) rfl (L' := [xR a, xI p1, xI 1, xI y3, xI y4, xI v3.1]) rfl k))) ?_
                          refine ev_letx (fun x49 ex49 => ?_)
                          refine ev_st (pc' := 194) (L' := [xR a, xI p1, xI 1, xI y3, xI x49, xI v3.1]) (st' := []) (fun _ _ _ k => e_iinc dL_isRead_191 (i := 4) rfl (x := y4) rfl (y := x49) ex49 (L' := [xR a, xI p1, xI 1, xI y3, xI x49, xI v3.1]) rfl k) ?_
                          refine ev_st (pc' := 8) (L' := [xR a, xI p1, xI 1, xI y3, xI x49, xU]) (st' := []) (fun _ _ _ k => e_goto dL_isRead_194 (tgt := 8) rfl (e_fg [5] k)) ?_
                          exact ih 1 y3 x49 v40.2
                        · refine ev_st (pc' := 189) (L' := [xR a, xI p1, xI 1, xI y3, xI y4, xI v3.1]) (st' := []) (fun _ _ _ k => e_iconst dL_isRead_177 (k4 rfl) (e_goto dL_isRead_178 (tgt := 182) rfl (e_cneT dL_isRead_182 (tgt := 189) rfl (by decide) k))) ?_
                          exact ev_none
                    · exact ev_none
                  · exact ev_none
                · exact ev_none
              · exact ev_none
            · exact ev_none
          · exact ev_none
set_option maxRecDepth 20000 in
set_option maxHeartbeats 4000000 in
theorem c_L_isRead {l : Launch} {g : xG} {d : Nat} {A : xA} {R : xN} {a : Nat} (h_a : sh 9 A a) (i1 : Int) : Ev l g (d + 7) mL_isRead 0 [xR a, xI i1, xU, xU, xU, xU] [] A R (fun v : Bool × xN => some (xI (xz v.1))) (fun v => v.2) (f_L_isRead a i1 R) := by
  rw [f_L_isRead]
  refine ev_st (pc' := 8) (L' := [xR a, xI i1, xI 1, xI (-9), xI 0, xU]) (st' := []) (fun _ _ _ k => e_iconst dL_isRead_0 (k4 rfl) (e_istore_n dL_isRead_1 rfl (i := 2) rfl (L' := [xR a, xI i1, xI 1, xU, xU, xU]) rfl (e_bipush dL_isRead_2 rfl (k4 rfl) (e_istore_n dL_isRead_4 rfl (i := 3) rfl (L' := [xR a, xI i1, xI 1, xI (-9), xU, xU]) rfl (e_iconst dL_isRead_5 (k4 rfl) (e_istore dL_isRead_6 (i := 4) rfl (L' := [xR a, xI i1, xI 1, xI (-9), xI 0, xU]) rfl k)))))) ?_
  refine lc_L_isRead_8 h_a i1 (fun z50 z51 z52 R53 => ?_) 6000 1 (-9) 0 R
  refine ev_st (pc' := 198) (L' := [xR a, xI i1, xI z50, xI z51, xU, xU]) (st' := [xI z50]) (fun _ _ _ k => e_iload_n dL_isRead_197 rfl (i := 2) (x := z50) rfl k) ?_
  refine ev_br2 (P := z50 = 0) (pct := 251) (pcf := 201) (st' := []) (fun _ _ _ kt kf => e_ifeq dL_isRead_198 (tgt := 251) rfl kt kf) (fun h54 => ?_) (fun h54 => ?_)
  · exact ev_ret (e_iconst dL_isRead_251 (k4 rfl) (e_iret dL_isRead_252))
  · refine ev_st (pc' := 203) (L' := [xR a, xI i1, xI z50, xI z51, xU, xU]) (st' := [xI 0, xR a]) (fun _ _ _ k => e_aload_n dL_isRead_201 rfl (i := 0) (x := a) rfl (e_iconst dL_isRead_202 (k4 rfl) k)) ?_
    refine ev_callV (As := [xI 0]) (st := []) (fun v55 => [xI v55]) dL_isRead_203 mlL_35 (kd9_0 h_a) rfl rfl rfl rfl rfl rfl (c_X9_reading (d := d + 1) h_a 0) (fun _ => trivial) (fun _ => rfl) (fun v55 => ?_)
    refine ev_st (pc' := 207) (L' := [xR a, xI i1, xI z50, xI z51, xU, xU]) (st' := [xI z51, xI v55]) (fun _ _ _ k => e_iload_n dL_isRead_206 rfl (i := 3) (x := z51) rfl k) ?_
    refine ev_tern (P := 0 ≤ z51) (a := z51) (b := (w4 (2 * i1))) (pct := 216) (pcf := 210) (J := 217) (st' := [xI v55]) (fun _ _ _ kt kf => e_ifge dL_isRead_207 (tgt := 216) rfl kt kf) (fun _ _ _ k => e_iload_n dL_isRead_216 rfl (i := 3) (x := z51) rfl k) (fun _ _ _ k => e_iconst dL_isRead_210 (k4 rfl) (e_iload_n dL_isRead_211 rfl (i := 1) (x := i1) rfl (e_imul dL_isRead_212 (e_goto dL_isRead_213 (tgt := 217) rfl k)))) (fun t56 et56 => ?_)
    refine ev_br2 (P := v55 = t56) (pct := 220) (pcf := 251) (st' := []) (fun _ _ _ kt kf => e_cne dL_isRead_217 (tgt := 251) rfl kt kf) (fun h57 => ?_) (fun h57 => ?_)
    · refine ev_st (pc' := 222) (L' := [xR a, xI i1, xI z50, xI z51, xU, xU]) (st' := [xI 1, xR a]) (fun _ _ _ k => e_aload_n dL_isRead_220 rfl (i := 0) (x := a) rfl (e_iconst dL_isRead_221 (k4 rfl) k)) ?_
      refine ev_callV (As := [xI 1]) (st := []) (fun v58 => [xI v58]) dL_isRead_222 mlL_35 (kd9_0 h_a) rfl rfl rfl rfl rfl rfl (c_X9_reading (d := d + 1) h_a 1) (fun _ => trivial) (fun _ => rfl) (fun v58 => ?_)
      refine ev_st (pc' := 226) (L' := [xR a, xI i1, xI z50, xI z51, xU, xU]) (st' := [xI z51, xI v58]) (fun _ _ _ k => e_iload_n dL_isRead_225 rfl (i := 3) (x := z51) rfl k) ?_
      refine ev_br2 (P := v58 = z51) (pct := 229) (pcf := 251) (st' := []) (fun _ _ _ kt kf => e_cne dL_isRead_226 (tgt := 251) rfl kt kf) (fun h59 => ?_) (fun h59 => ?_)
      · refine ev_st (pc' := 231) (L' := [xR a, xI i1, xI z50, xI z51, xU, xU]) (st' := [xI 2, xR a]) (fun _ _ _ k => e_aload_n dL_isRead_229 rfl (i := 0) (x := a) rfl (e_iconst dL_isRead_230 (k4 rfl) k)) ?_
        refine ev_callV (As := [xI 2]) (st := []) (fun v60 => [xI v60]) dL_isRead_231 mlL_35 (kd9_0 h_a) rfl rfl rfl rfl rfl rfl (c_X9_reading (d := d + 1) h_a 2) (fun _ => trivial) (fun _ => rfl) (fun v60 => ?_)
        refine ev_st (pc' := 235) (L' := [xR a, xI i1, xI z50, xI z51, xU, xU]) (st' := [xI z51, xI v60]) (fun _ _ _ k => e_iload_n dL_isRead_234 rfl (i := 3) (x := z51) rfl k) ?_
        refine ev_tern (P := 0 ≤ z51) (a := 1) (b := (-9)) (pct := 243) (pcf := 238) (J := 244) (st' := [xI v60]) (fun _ _ _ kt kf => e_ifge dL_isRead_235 (tgt := 243) rfl kt kf) (fun _ _ _ k => e_iconst dL_isRead_243 (k4 rfl) k) (fun _ _ _ k => e_bipush dL_isRead_238 rfl (k4 rfl) (e_goto dL_isRead_240 (tgt := 244) rfl k)) (fun t61 et61 => ?_)
        refine ev_br2 (P := v60 = t61) (pct := 247) (pcf := 251) (st' := []) (fun _ _ _ kt kf => e_cne dL_isRead_244 (tgt := 251) rfl kt kf) (fun h62 => ?_) (fun h62 => ?_)
        · exact ev_ret (e_iconst dL_isRead_247 (k4 rfl) (e_goto dL_isRead_248 (tgt := 252) rfl (e_iret dL_isRead_252)))
        · exact ev_ret (e_iconst dL_isRead_251 (k4 rfl) (e_iret dL_isRead_252))
      · exact ev_ret (e_iconst dL_isRead_251 (k4 rfl) (e_iret dL_isRead_252))
    · exact ev_ret (e_iconst dL_isRead_251 (k4 rfl) (e_iret dL_isRead_252))
