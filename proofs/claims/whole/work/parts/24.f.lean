def f_X4_put (a : Nat) (i0 : Int) (i1 : Int) (i2 : Int) (i3 : Int) (R : xN) : Option (Int × xN) :=
  (f_X9_isIn i0 0 99 R).bind (fun v1 =>
  if v1 = true then
  (f_X9_isIn i1 0 9 R).bind (fun v3 =>
  if v3 = true then
  (f_X9_isIn i2 1 20 R).bind (fun v5 =>
  if v5 = true then
  (f_X9_isIn i3 0 1 R).bind (fun v7 =>
  if v7 = true then
  (f_X9_isIn (R a 1) 0 11 R).bind (fun v9 =>
  if v9 = true then
  if 0 ≤ (w4 ((w4 ((R a 1) * 4)) + 0)) ∧ (w4 ((w4 ((R a 1) * 4)) + 0)) < 48 then
  xlet (xup R (a + 1) ((w4 ((w4 ((R a 1) * 4)) + 0))).toNat i0) (fun R12 =>
  if 0 ≤ (w4 ((w4 ((R12 a 1) * 4)) + 1)) ∧ (w4 ((w4 ((R12 a 1) * 4)) + 1)) < 48 then
  xlet (xup R12 (a + 1) ((w4 ((w4 ((R12 a 1) * 4)) + 1))).toNat i1) (fun R14 =>
  if 0 ≤ (w4 ((w4 ((R14 a 1) * 4)) + 2)) ∧ (w4 ((w4 ((R14 a 1) * 4)) + 2)) < 48 then
  xlet (xup R14 (a + 1) ((w4 ((w4 ((R14 a 1) * 4)) + 2))).toNat i2) (fun R16 =>
  if 0 ≤ (w4 ((w4 ((R16 a 1) * 4)) + 3)) ∧ (w4 ((w4 ((R16 a 1) * 4)) + 3)) < 48 then
  xlet (xup R16 (a + 1) ((w4 ((w4 ((R16 a 1) * 4)) + 3))).toNat i3) (fun R18 =>
  xlet (xup R18 a 1 (w4 ((R18 a 1) + 1))) (fun R19 =>
  some ((w4 ((R19 a 1) - 1)), R19)))
  else none)
  else none)
  else none)
  else none
  else
  some ((-3), R))
  else
  some ((-1), R))
  else
  some ((-1), R))
  else
  some ((-1), R))
  else
  some ((-1), R))
set_option maxRecDepth 20000 in
set_option maxHeartbeats 4000000 in
theorem c_X4_put {l : Launch} {g : xG} {d : Nat} {A : xA} {R : xN} {a : Nat} (h_a : sh 4 A a) (i0 : Int) (i1 : Int) (i2 : Int) (i3 : Int) : Ev l g (d + 1) mX4_put 0 [xR a, xI i0, xI i1, xI i2, xI i3] [] A R (fun v : Int × xN => some (xI v.1)) (fun v => v.2) (f_X4_put a i0 i1 i2 i3 R) := by
  rw [f_X4_put]
  refine ev_st (pc' := 4) (L' := [xR a, xI i0, xI i1, xI i2, xI i3]) (st' := [xI 99, xI 0, xI i0]) (fun _ _ _ k => e_iload_n dX4_put_0 rfl (i := 1) (x := i0) rfl (e_iconst dX4_put_1 (k4 rfl) (e_bipush dX4_put_2 rfl (k4 rfl) k))) ?_
  refine ev_callN (As := [xI i0, xI 0, xI 99]) (st := []) (fun v1 => [xI (xz v1)]) dX4_put_4 mlX4_25 rfl rfl rfl rfl rfl rfl (c_X9_isIn (d := d) i0 0 99) (fun _ => xz01 _) (fun _ => rfl) (fun v1 => ?_)
  refine ev_br2 (P := v1 = true) (pct := 10) (pcf := 40) (st' := []) (fun _ _ _ kt kf => e_ifeqz dX4_put_7 (tgt := 40) rfl kt kf) (fun h2 => ?_) (fun h2 => ?_)
  · refine ev_st (pc' := 14) (L' := [xR a, xI i0, xI i1, xI i2, xI i3]) (st' := [xI 9, xI 0, xI i1]) (fun _ _ _ k => e_iload_n dX4_put_10 rfl (i := 2) (x := i1) rfl (e_iconst dX4_put_11 (k4 rfl) (e_bipush dX4_put_12 rfl (k4 rfl) k))) ?_
    refine ev_callN (As := [xI i1, xI 0, xI 9]) (st := []) (fun v3 => [xI (xz v3)]) dX4_put_14 mlX4_25 rfl rfl rfl rfl rfl rfl (c_X9_isIn (d := d) i1 0 9) (fun _ => xz01 _) (fun _ => rfl) (fun v3 => ?_)
    refine ev_br2 (P := v3 = true) (pct := 20) (pcf := 40) (st' := []) (fun _ _ _ kt kf => e_ifeqz dX4_put_17 (tgt := 40) rfl kt kf) (fun h4 => ?_) (fun h4 => ?_)
    · refine ev_st (pc' := 24) (L' := [xR a, xI i0, xI i1, xI i2, xI i3]) (st' := [xI 20, xI 1, xI i2]) (fun _ _ _ k => e_iload_n dX4_put_20 rfl (i := 3) (x := i2) rfl (e_iconst dX4_put_21 (k4 rfl) (e_bipush dX4_put_22 rfl (k4 rfl) k))) ?_
      refine ev_callN (As := [xI i2, xI 1, xI 20]) (st := []) (fun v5 => [xI (xz v5)]) dX4_put_24 mlX4_25 rfl rfl rfl rfl rfl rfl (c_X9_isIn (d := d) i2 1 20) (fun _ => xz01 _) (fun _ => rfl) (fun v5 => ?_)
      refine ev_br2 (P := v5 = true) (pct := 30) (pcf := 40) (st' := []) (fun _ _ _ kt kf => e_ifeqz dX4_put_27 (tgt := 40) rfl kt kf) (fun h6 => ?_) (fun h6 => ?_)
      · refine ev_st (pc' := 34) (L' := [xR a, xI i0, xI i1, xI i2, xI i3]) (st' := [xI 1, xI 0, xI i3]) (fun _ _ _ k => e_iload dX4_put_30 (i := 4) (x := i3) rfl (e_iconst dX4_put_32 (k4 rfl) (e_iconst dX4_put_33 (k4 rfl) k))) ?_
        refine ev_callN (As := [xI i3, xI 0, xI 1]) (st := []) (fun v7 => [xI (xz v7)]) dX4_put_34 mlX4_25 rfl rfl rfl rfl rfl rfl (c_X9_isIn (d := d) i3 0 1) (fun _ => xz01 _) (fun _ => rfl) (fun v7 => ?_)
        refine ev_br2 (P := v7 = true) (pct := 42) (pcf := 40) (st' := []) (fun _ _ _ kt kf => e_ifnez dX4_put_37 (tgt := 42) rfl kt kf) (fun h8 => ?_) (fun h8 => ?_)
        · refine ev_st (pc' := 49) (L' := [xR a, xI i0, xI i1, xI i2, xI i3]) (st' := [xI 11, xI 0, xI (R a 1)]) (fun _ _ _ k => e_aload_n dX4_put_42 rfl (i := 0) (x := a) rfl (e_geti dX4_put_43 flX4_15 (kd4_0 h_a) (Or.inl rfl) (e_iconst dX4_put_46 (k4 rfl) (e_bipush dX4_put_47 rfl (k4 rfl) k)))) ?_
          refine ev_callN (As := [xI (R a 1), xI 0, xI 11]) (st := []) (fun v9 => [xI (xz v9)]) dX4_put_49 mlX4_25 rfl rfl rfl rfl rfl rfl (c_X9_isIn (d := d) (R a 1) 0 11) (fun _ => xz01 _) (fun _ => rfl) (fun v9 => ?_)
          refine ev_br2 (P := v9 = true) (pct := 58) (pcf := 55) (st' := []) (fun _ _ _ kt kf => e_ifnez dX4_put_52 (tgt := 58) rfl kt kf) (fun h10 => ?_) (fun h10 => ?_)
          · refine ev_st (pc' := 71) (L' := [xR a, xI i0, xI i1, xI i2, xI i3]) (st' := [xI i0, xI (w4 ((w4 ((R a 1) * 4)) + 0)), xR (a + 1)]) (fun _ _ _ k => e_aload_n dX4_put_58 rfl (i := 0) (x := a) rfl (e_getr dX4_put_59 flX4_11 (kd4_0 h_a) rfl (rf4_0_0 h_a) (e_aload_n dX4_put_62 rfl (i := 0) (x := a) rfl (e_geti dX4_put_63 flX4_15 (kd4_0 h_a) (Or.inl rfl) (e_iconst dX4_put_66 (k4 rfl) (e_imul dX4_put_67 (e_iconst dX4_put_68 (k4 rfl) (e_iadd dX4_put_69 (e_iload_n dX4_put_70 rfl (i := 1) (x := i0) rfl k))))))))) ?_
            refine ev_chk (fun h11 => ?_)
            refine ev_st (pc' := 72) (L' := [xR a, xI i0, xI i1, xI i2, xI i3]) (st' := []) (fun _ _ _ k => e_iast dX4_put_71 (kd4_1 h_a) h11.1 h11.2 k) ?_
            refine ev_letR (fun R12 eR12 => ?_)
            refine ev_st (pc' := 85) (L' := [xR a, xI i0, xI i1, xI i2, xI i3]) (st' := [xI i1, xI (w4 ((w4 ((R12 a 1) * 4)) + 1)), xR (a + 1)]) (fun _ _ _ k => e_aload_n dX4_put_72 rfl (i := 0) (x := a) rfl (e_getr dX4_put_73 flX4_11 (kd4_0 h_a) rfl (rf4_0_0 h_a) (e_aload_n dX4_put_76 rfl (i := 0) (x := a) rfl (e_geti dX4_put_77 flX4_15 (kd4_0 h_a) (Or.inl rfl) (e_iconst dX4_put_80 (k4 rfl) (e_imul dX4_put_81 (e_iconst dX4_put_82 (k4 rfl) (e_iadd dX4_put_83 (e_iload_n dX4_put_84 rfl (i := 2) (x := i1) rfl k))))))))) ?_
            refine ev_chk (fun h13 => ?_)
            refine ev_st (pc' := 86) (L' := [xR a, xI i0, xI i1, xI i2, xI i3]) (st' := []) (fun _ _ _ k => e_iast dX4_put_85 (kd4_1 h_a) h13.1 h13.2 k) ?_
            refine ev_letR (fun R14 eR14 => ?_)
            refine ev_st (pc' := 99) (L' := [xR a, xI i0, xI i1, xI i2, xI i3]) (st' := [xI i2, xI (w4 ((w4 ((R14 a 1) * 4)) + 2)), xR (a + 1)]) (fun _ _ _ k => e_aload_n dX4_put_86 rfl (i := 0) (x := a) rfl (e_getr dX4_put_87 flX4_11 (kd4_0 h_a) rfl (rf4_0_0 h_a) (e_aload_n dX4_put_90 rfl (i := 0) (x := a) rfl (e_geti dX4_put_91 flX4_15 (kd4_0 h_a) (Or.inl rfl) (e_iconst dX4_put_94 (k4 rfl) (e_imul dX4_put_95 (e_iconst dX4_put_96 (k4 rfl) (e_iadd dX4_put_97 (e_iload_n dX4_put_98 rfl (i := 3) (x := i2) rfl k))))))))) ?_
            refine ev_chk (fun h15 => ?_)
            refine ev_st (pc' := 100) (L' := [xR a, xI i0, xI i1, xI i2, xI i3]) (st' := []) (fun _ _ _ k => e_iast dX4_put_99 (kd4_1 h_a) h15.1 h15.2 k) ?_
            refine ev_letR (fun R16 eR16 => ?_)
            refine ev_st (pc' := 114) (L' := [xR a, xI i0, xI i1, xI i2, xI i3]) (st' := [xI i3, xI (w4 ((w4 ((R16 a 1) * 4)) + 3)), xR (a + 1)]) (fun _ _ _ k => e_aload_n dX4_put_100 rfl (i := 0) (x := a) rfl (e_getr dX4_put_101 flX4_11 (kd4_0 h_a) rfl (rf4_0_0 h_a) (e_aload_n dX4_put_104 rfl (i := 0) (x := a) rfl (e_geti dX4_put_105 flX4_15 (kd4_0 h_a) (Or.inl rfl) (e_iconst dX4_put_108 (k4 rfl) (e_imul dX4_put_109 (e_iconst dX4_put_110 (k4 rfl) (e_iadd dX4_put_111 (e_iload dX4_put_112 (i := 4) (x := i3) rfl k))))))))) ?_
            refine ev_chk (fun h17 => ?_)
            refine ev_st (pc' := 115) (L' := [xR a, xI i0, xI i1, xI i2, xI i3]) (st' := []) (fun _ _ _ k => e_iast dX4_put_114 (kd4_1 h_a) h17.1 h17.2 k) ?_
            refine ev_letR (fun R18 eR18 => ?_)
            refine ev_st (pc' := 125) (L' := [xR a, xI i0, xI i1, xI i2, xI i3]) (st' := []) (fun _ _ _ k => e_aload_n dX4_put_115 rfl (i := 0) (x := a) rfl (e_dupR dX4_put_116 (e_geti dX4_put_117 flX4_15 (kd4_0 h_a) (Or.inl rfl) (e_iconst dX4_put_120 (k4 rfl) (e_iadd dX4_put_121 (e_puti dX4_put_122 flX4_15 (kd4_0 h_a) (Or.inl rfl) rfl k)))))) ?_
            refine ev_letR (fun R19 eR19 => ?_)
            exact ev_ret (e_aload_n dX4_put_125 rfl (i := 0) (x := a) rfl (e_geti dX4_put_126 flX4_15 (kd4_0 h_a) (Or.inl rfl) (e_iconst dX4_put_129 (k4 rfl) (e_isub dX4_put_130 (e_iret dX4_put_131)))))
          · exact ev_ret (e_bipush dX4_put_55 rfl (k4 rfl) (e_iret dX4_put_57))
        · exact ev_ret (e_iconst dX4_put_40 (k4 rfl) (e_iret dX4_put_41))
      · exact ev_ret (e_iconst dX4_put_40 (k4 rfl) (e_iret dX4_put_41))
    · exact ev_ret (e_iconst dX4_put_40 (k4 rfl) (e_iret dX4_put_41))
  · exact ev_ret (e_iconst dX4_put_40 (k4 rfl) (e_iret dX4_put_41))
def lp_X4_drop_14 (a : Nat) : Nat → Int → xN → (Int → xN → Option (Int × xN)) → Option (Int × xN)
  | 0, _, _, _ => none
  | n + 1, y2, R, X =>
    if (w4 ((R a 1) * 4)) ≤ (w4 (y2 + 4)) then
    X y2 R
    else
    if 48 ≤ (w4 (y2 + 4)) then
    X y2 R
    else
    if 0 ≤ (w4 (y2 + 4)) ∧ (w4 (y2 + 4)) < 48 then
    if 0 ≤ y2 ∧ y2 < 48 then
    xlet (xup R (a + 1) (y2).toNat (R (a + 1) ((w4 (y2 + 4))).toNat)) (fun R8 =>
    xlet (w4 (y2 + 1)) (fun x9 =>
    lp_X4_drop_14 a n x9 R8 X))
    else none
    else none
def f_X4_drop (a : Nat) (i0 : Int) (R : xN) : Option (Int × xN) :=
  (f_X4_has a i0 R).bind (fun v1 =>
  if v1 = true then
  xlet (w4 (i0 * 4)) (fun x3 =>
  lp_X4_drop_14 a 6000 x3 R (fun z10 R11 =>
  xlet (xup R11 a 1 (w4 ((R11 a 1) - 1))) (fun R12 =>
  some ((R12 a 1), R12))))
  else
  some ((-1), R))
set_option maxRecDepth 20000 in
set_option maxHeartbeats 4000000 in
theorem lc_X4_drop_14 {l : Launch} {g : xG} {d : Nat} {A : xA} {a : Nat} (h_a : sh 4 A a)  {X : Int → xN → Option (Int × xN)} (hX : ∀ (y2 : Int) (R : xN), Ev l g (d + 2) mX4_drop 57 [xR a, xU, xU] [] A R (fun v : Int × xN => some (xI v.1)) (fun v => v.2) (X y2 R)) (n : Nat) (y2 : Int) (R : xN) : Ev l g (d + 2) mX4_drop 14 [xR a, xU, xI y2] [] A R (fun v : Int × xN => some (xI v.1)) (fun v => v.2) (lp_X4_drop_14 a n y2 R X) := by
  induction n generalizing y2 R with
  | zero => exact ev_none
  | succ n ih =>
    rw [lp_X4_drop_14]
    refine ev_st (pc' := 23) (L' := [xR a, xU, xI y2]) (st' := [xI (w4 ((R a 1) * 4)), xI (w4 (y2 + 4))]) (fun _ _ _ k => e_iload_n dX4_drop_14 rfl (i := 2) (x := y2) rfl (e_iconst dX4_drop_15 (k4 rfl) (e_iadd dX4_drop_16 (e_aload_n dX4_drop_17 rfl (i := 0) (x := a) rfl (e_geti dX4_drop_18 flX4_15 (kd4_0 h_a) (Or.inl rfl) (e_iconst dX4_drop_21 (k4 rfl) (e_imul dX4_drop_22 k))))))) ?_
    refine ev_br2 (P := (w4 ((R a 1) * 4)) ≤ (w4 (y2 + 4))) (pct := 57) (pcf := 26) (st' := []) (fun _ _ _ kt kf => e_cge dX4_drop_23 (tgt := 57) rfl kt kf) (fun h4 => ?_) (fun h4 => ?_)
    · refine ev_st (pc' := 57) (L' := [xR a, xU, xU]) (st' := []) (fun _ _ _ k => e_fg [2] k) ?_
      exact hX y2 R
    · refine ev_st (pc' := 34) (L' := [xR a, xU, xI y2]) (st' := [xI 48, xI (w4 (y2 + 4))]) (fun _ _ _ k => e_iload_n dX4_drop_26 rfl (i := 2) (x := y2) rfl (e_iconst dX4_drop_27 (k4 rfl) (e_iadd dX4_drop_28 (e_aload_n dX4_drop_29 rfl (i := 0) (x := a) rfl (e_getr dX4_drop_30 flX4_11 (kd4_0 h_a) rfl (rf4_0_0 h_a) (e_alen dX4_drop_33 (kd4_1 h_a) (k4 rfl) k)))))) ?_
      refine ev_br2 (P := 48 ≤ (w4 (y2 + 4))) (pct := 57) (pcf := 37) (st' := []) (fun _ _ _ kt kf => e_cge dX4_drop_34 (tgt := 57) rfl kt kf) (fun h5 => ?_) (fun h5 => ?_)
      · refine ev_st (pc' := 57) (L' := [xR a, xU, xU]) (st' := []) (fun _ _ _ k => e_fg [2] k) ?_
        exact hX y2 R
      · refine ev_st (pc' := 49) (L' := [xR a, xU, xI y2]) (st' := [xI (w4 (y2 + 4)), xR (a + 1), xI y2, xR (a + 1)]) (fun _ _ _ k => e_aload_n dX4_drop_37 rfl (i := 0) (x := a) rfl (e_getr dX4_drop_38 flX4_11 (kd4_0 h_a) rfl (rf4_0_0 h_a) (e_iload_n dX4_drop_41 rfl (i := 2) (x := y2) rfl (e_aload_n dX4_drop_42 rfl (i := 0) (x := a) rfl (e_getr dX4_drop_43 flX4_11 (kd4_0 h_a) rfl (rf4_0_0 h_a) (e_iload_n dX4_drop_46 rfl (i := 2) (x := y2) rfl (e_iconst dX4_drop_47 (k4 rfl) (e_iadd dX4_drop_48 k)))))))) ?_
        refine ev_chk (fun h6 => ?_)
        refine ev_st (pc' := 50) (L' := [xR a, xU, xI y2]) (st' := [xI (R (a + 1) ((w4 (y2 + 4))).toNat), xI y2, xR (a + 1)]) (fun _ _ _ k => e_iald dX4_drop_49 (kd4_1 h_a) h6.1 h6.2 k) ?_
        refine ev_chk (fun h7 => ?_)
        refine ev_st (pc' := 51) (L' := [xR a, xU, xI y2]) (st' := []) (fun _ _ _ k => e_iast dX4_drop_50 (kd4_1 h_a) h7.1 h7.2 k) ?_
        refine ev_letR (fun R8 eR8 => ?_)
        refine ev_letx (fun x9 ex9 => ?_)
        refine ev_st (pc' := 54) (L' := [xR a, xU, xI x9]) (st' := []) (fun _ _ _ k => e_iinc dX4_drop_51 (i := 2) rfl (x := y2) rfl (y := x9) ex9 (L' := [xR a, xU, xI x9]) rfl k) ?_
        refine ev_st (pc' := 14) (L' := [xR a, xU, xI x9]) (st' := []) (fun _ _ _ k => e_goto dX4_drop_54 (tgt := 14) rfl k) ?_
        exact ih x9 R8
set_option maxRecDepth 20000 in
set_option maxHeartbeats 4000000 in
theorem c_X4_drop {l : Launch} {g : xG} {d : Nat} {A : xA} {R : xN} {a : Nat} (h_a : sh 4 A a) (i0 : Int) : Ev l g (d + 2) mX4_drop 0 [xR a, xI i0, xU] [] A R (fun v : Int × xN => some (xI v.1)) (fun v => v.2) (f_X4_drop a i0 R) := by
  rw [f_X4_drop]
  refine ev_st (pc' := 2) (L' := [xR a, xI i0, xU]) (st' := [xI i0, xR a]) (fun _ _ _ k => e_aload_n dX4_drop_0 rfl (i := 0) (x := a) rfl (e_iload_n dX4_drop_1 rfl (i := 1) (x := i0) rfl k)) ?_
  refine ev_callV (As := [xI i0]) (st := []) (fun v1 => [xI (xz v1)]) dX4_drop_2 mlX4_29 (kd4_0 h_a) rfl rfl rfl rfl rfl rfl (c_X4_has (d := d) h_a i0) (fun _ => xz01 _) (fun _ => rfl) (fun v1 => ?_)
  refine ev_br2 (P := v1 = true) (pct := 10) (pcf := 8) (st' := []) (fun _ _ _ kt kf => e_ifnez dX4_drop_5 (tgt := 10) rfl kt kf) (fun h2 => ?_) (fun h2 => ?_)
  · refine ev_st (pc' := 13) (L' := [xR a, xI i0, xU]) (st' := [xI (w4 (i0 * 4))]) (fun _ _ _ k => e_iload_n dX4_drop_10 rfl (i := 1) (x := i0) rfl (e_iconst dX4_drop_11 (k4 rfl) (e_imul dX4_drop_12 k))) ?_
    refine ev_leti (fun x3 ex3 => ?_)
    refine ev_st (pc' := 14) (L' := [xR a, xI i0, xI x3]) (st' := []) (fun _ _ _ k => e_istore_n dX4_drop_13 rfl (i := 2) rfl (L' := [xR a, xI i0, xI x3]) rfl k) ?_
    refine ev_st (pc' := 14) (L' := [xR a, xU, xI x3]) (st' := []) (fun _ _ _ k => e_fg [1] k) ?_
    refine lc_X4_drop_14 h_a (fun z10 R11 => ?_) 6000 x3 R
    refine ev_st (pc' := 67) (L' := [xR a, xU, xU]) (st' := []) (fun _ _ _ k => e_aload_n dX4_drop_57 rfl (i := 0) (x := a) rfl (e_dupR dX4_drop_58 (e_geti dX4_drop_59 flX4_15 (kd4_0 h_a) (Or.inl rfl) (e_iconst dX4_drop_62 (k4 rfl) (e_isub dX4_drop_63 (e_puti dX4_drop_64 flX4_15 (kd4_0 h_a) (Or.inl rfl) rfl k)))))) ?_
    refine ev_letR (fun R12 eR12 => ?_)
    exact ev_ret (e_aload_n dX4_drop_67 rfl (i := 0) (x := a) rfl (e_geti dX4_drop_68 flX4_15 (kd4_0 h_a) (Or.inl rfl) (e_iret dX4_drop_71)))
  · exact ev_ret (e_iconst dX4_drop_8 (k4 rfl) (e_iret dX4_drop_9))
def f_X6_at (a : Nat) (i0 : Int) (R : xN) : Option (Int) :=
  (f_X9_isIn i0 0 119 R).bind (fun v1 =>
  if v1 = true then
  if 0 ≤ i0 ∧ i0 < 120 then
  some (R (a + 1) (i0).toNat)
  else none
  else
  some 0)
set_option maxRecDepth 20000 in
set_option maxHeartbeats 4000000 in
theorem c_X6_at {l : Launch} {g : xG} {d : Nat} {A : xA} {R : xN} {a : Nat} (h_a : sh 6 A a) (i0 : Int) : Ev l g (d + 1) mX6_at 0 [xR a, xI i0] [] A R (fun v : Int => some (xI v)) (fun _ => R) (f_X6_at a i0 R) := by
  rw [f_X6_at]
  refine ev_st (pc' := 4) (L' := [xR a, xI i0]) (st' := [xI 119, xI 0, xI i0]) (fun _ _ _ k => e_iload_n dX6_at_0 rfl (i := 1) (x := i0) rfl (e_iconst dX6_at_1 (k4 rfl) (e_bipush dX6_at_2 rfl (k4 rfl) k))) ?_
  refine ev_callN (As := [xI i0, xI 0, xI 119]) (st := []) (fun v1 => [xI (xz v1)]) dX6_at_4 mlX6_58 rfl rfl rfl rfl rfl rfl (c_X9_isIn (d := d) i0 0 119) (fun _ => xz01 _) (fun _ => rfl) (fun v1 => ?_)
  refine ev_br2 (P := v1 = true) (pct := 10) (pcf := 19) (st' := []) (fun _ _ _ kt kf => e_ifeqz dX6_at_7 (tgt := 19) rfl kt kf) (fun h2 => ?_) (fun h2 => ?_)
  · refine ev_st (pc' := 15) (L' := [xR a, xI i0]) (st' := [xI i0, xR (a + 1)]) (fun _ _ _ k => e_aload_n dX6_at_10 rfl (i := 0) (x := a) rfl (e_getr dX6_at_11 flX6_9 (kd6_0 h_a) rfl (rf6_0_0 h_a) (e_iload_n dX6_at_14 rfl (i := 1) (x := i0) rfl k))) ?_
    refine ev_chk (fun h3 => ?_)
    refine ev_st (pc' := 16) (L' := [xR a, xI i0]) (st' := [xI (R (a + 1) (i0).toNat)]) (fun _ _ _ k => e_iald dX6_at_15 (kd6_1 h_a) h3.1 h3.2 k) ?_
    exact ev_ret (e_goto dX6_at_16 (tgt := 20) rfl (e_iret dX6_at_20))
  · exact ev_ret (e_iconst dX6_at_19 (k4 rfl) (e_iret dX6_at_20))
def f_X6_isLetter (i0 : Int) (R : xN) : Option (Bool) :=
  if i0 < 97 then
  some false
  else
  if 122 < i0 then
  some false
  else
  some true
set_option maxRecDepth 20000 in
set_option maxHeartbeats 4000000 in
theorem c_X6_isLetter {l : Launch} {g : xG} {d : Nat} {A : xA} {R : xN}  (i0 : Int) : Ev l g (d) mX6_isLetter 0 [xI i0] [] A R (fun v : Bool => some (xI (xz v))) (fun _ => R) (f_X6_isLetter i0 R) := by
  rw [f_X6_isLetter]
  refine ev_st (pc' := 3) (L' := [xI i0]) (st' := [xI 97, xI i0]) (fun _ _ _ k => e_iload_n dX6_isLetter_0 rfl (i := 0) (x := i0) rfl (e_bipush dX6_isLetter_1 rfl (k4 rfl) k)) ?_
  refine ev_br2 (P := i0 < 97) (pct := 16) (pcf := 6) (st' := []) (fun _ _ _ kt kf => e_clt dX6_isLetter_3 (tgt := 16) rfl kt kf) (fun h1 => ?_) (fun h1 => ?_)
  · exact ev_ret (e_iconst dX6_isLetter_16 (k4 rfl) (e_iret dX6_isLetter_17))
  · refine ev_st (pc' := 9) (L' := [xI i0]) (st' := [xI 122, xI i0]) (fun _ _ _ k => e_iload_n dX6_isLetter_6 rfl (i := 0) (x := i0) rfl (e_bipush dX6_isLetter_7 rfl (k4 rfl) k)) ?_
    refine ev_br2 (P := 122 < i0) (pct := 16) (pcf := 12) (st' := []) (fun _ _ _ kt kf => e_cgt dX6_isLetter_9 (tgt := 16) rfl kt kf) (fun h2 => ?_) (fun h2 => ?_)
    · exact ev_ret (e_iconst dX6_isLetter_16 (k4 rfl) (e_iret dX6_isLetter_17))
    · exact ev_ret (e_iconst dX6_isLetter_12 (k4 rfl) (e_goto dX6_isLetter_13 (tgt := 17) rfl (e_iret dX6_isLetter_17)))
def f_X6_isDigit (i0 : Int) (R : xN) : Option (Bool) :=
  if i0 < 48 then
  some false
  else
  if 57 < i0 then
  some false
  else
  some true
set_option maxRecDepth 20000 in
set_option maxHeartbeats 4000000 in
theorem c_X6_isDigit {l : Launch} {g : xG} {d : Nat} {A : xA} {R : xN}  (i0 : Int) : Ev l g (d) mX6_isDigit 0 [xI i0] [] A R (fun v : Bool => some (xI (xz v))) (fun _ => R) (f_X6_isDigit i0 R) := by
  rw [f_X6_isDigit]
  refine ev_st (pc' := 3) (L' := [xI i0]) (st' := [xI 48, xI i0]) (fun _ _ _ k => e_iload_n dX6_isDigit_0 rfl (i := 0) (x := i0) rfl (e_bipush dX6_isDigit_1 rfl (k4 rfl) k)) ?_
  refine ev_br2 (P := i0 < 48) (pct := 16) (pcf := 6) (st' := []) (fun _ _ _ kt kf => e_clt dX6_isDigit_3 (tgt := 16) rfl kt kf) (fun h1 => ?_) (fun h1 => ?_)
  · exact ev_ret (e_iconst dX6_isDigit_16 (k4 rfl) (e_iret dX6_isDigit_17))
  · refine ev_st (pc' := 9) (L' := [xI i0]) (st' := [xI 57, xI i0]) (fun _ _ _ k => e_iload_n dX6_isDigit_6 rfl (i := 0) (x := i0) rfl (e_bipush dX6_isDigit_7 rfl (k4 rfl) k)) ?_
    refine ev_br2 (P := 57 < i0) (pct := 16) (pcf := 12) (st' := []) (fun _ _ _ kt kf => e_cgt dX6_isDigit_9 (tgt := 16) rfl kt kf) (fun h2 => ?_) (fun h2 => ?_)
    · exact ev_ret (e_iconst dX6_isDigit_16 (k4 rfl) (e_iret dX6_isDigit_17))
    · exact ev_ret (e_iconst dX6_isDigit_12 (k4 rfl) (e_goto dX6_isDigit_13 (tgt := 17) rfl (e_iret dX6_isDigit_17)))
def f_X6_isOneRun (i0 : Int) (i1 : Int) (R : xN) : Option (Bool) :=
  (f_X6_isLetter i0 R).bind (fun v1 =>
  if v1 = true then
  (f_X6_isLetter i1 R).bind (fun v3 =>
  if v3 = true then
  some true
  else
  (f_X6_isDigit i0 R).bind (fun v5 =>
  if v5 = true then
  (f_X6_isDigit i1 R).bind (fun v7 =>
  if v7 = true then
  some true
  else
  some false)
  else
  some false))
  else
  (f_X6_isDigit i0 R).bind (fun v9 =>
  if v9 = true then
  (f_X6_isDigit i1 R).bind (fun v11 =>
  if v11 = true then
  some true
  else
  some false)
  else
  some false))
set_option maxRecDepth 20000 in
set_option maxHeartbeats 4000000 in
theorem c_X6_isOneRun {l : Launch} {g : xG} {d : Nat} {A : xA} {R : xN}  (i0 : Int) (i1 : Int) : Ev l g (d + 1) mX6_isOneRun 0 [xI i0, xI i1] [] A R (fun v : Bool => some (xI (xz v))) (fun _ => R) (f_X6_isOneRun i0 i1 R) := by
  rw [f_X6_isOneRun]
  refine ev_st (pc' := 1) (L' := [xI i0, xI i1]) (st' := [xI i0]) (fun _ _ _ k => e_iload_n dX6_isOneRun_0 rfl (i := 0) (x := i0) rfl k) ?_
  refine ev_callS (As := [xI i0]) (st := []) (fun v1 => [xI (xz v1)]) dX6_isOneRun_1 mlX6_51 rfl rfl rfl rfl rfl rfl (c_X6_isLetter (d := d) i0) (fun _ => xz01 _) (fun _ => rfl) (fun v1 => ?_)
  refine ev_br2 (P := v1 = true) (pct := 7) (pcf := 14) (st' := []) (fun _ _ _ kt kf => e_ifeqz dX6_isOneRun_4 (tgt := 14) rfl kt kf) (fun h2 => ?_) (fun h2 => ?_)
  · refine ev_st (pc' := 8) (L' := [xI i0, xI i1]) (st' := [xI i1]) (fun _ _ _ k => e_iload_n dX6_isOneRun_7 rfl (i := 1) (x := i1) rfl k) ?_
    refine ev_callS (As := [xI i1]) (st := []) (fun v3 => [xI (xz v3)]) dX6_isOneRun_8 mlX6_51 rfl rfl rfl rfl rfl rfl (c_X6_isLetter (d := d) i1) (fun _ => xz01 _) (fun _ => rfl) (fun v3 => ?_)
    refine ev_br2 (P := v3 = true) (pct := 28) (pcf := 14) (st' := []) (fun _ _ _ kt kf => e_ifnez dX6_isOneRun_11 (tgt := 28) rfl kt kf) (fun h4 => ?_) (fun h4 => ?_)
    · exact ev_ret (e_iconst dX6_isOneRun_28 (k4 rfl) (e_goto dX6_isOneRun_29 (tgt := 33) rfl (e_iret dX6_isOneRun_33)))
    · refine ev_st (pc' := 15) (L' := [xI i0, xI i1]) (st' := [xI i0]) (fun _ _ _ k => e_iload_n dX6_isOneRun_14 rfl (i := 0) (x := i0) rfl k) ?_
      refine ev_callS (As := [xI i0]) (st := []) (fun v5 => [xI (xz v5)]) dX6_isOneRun_15 mlX6_55 rfl rfl rfl rfl rfl rfl (c_X6_isDigit (d := d) i0) (fun _ => xz01 _) (fun _ => rfl) (fun v5 => ?_)
      refine ev_br2 (P := v5 = true) (pct := 21) (pcf := 32) (st' := []) (fun _ _ _ kt kf => e_ifeqz dX6_isOneRun_18 (tgt := 32) rfl kt kf) (fun h6 => ?_) (fun h6 => ?_)
      · refine ev_st (pc' := 22) (L' := [xI i0, xI i1]) (st' := [xI i1]) (fun _ _ _ k => e_iload_n dX6_isOneRun_21 rfl (i := 1) (x := i1) rfl k) ?_
        refine ev_callS (As := [xI i1]) (st := []) (fun v7 => [xI (xz v7)]) dX6_isOneRun_22 mlX6_55 rfl rfl rfl rfl rfl rfl (c_X6_isDigit (d := d) i1) (fun _ => xz01 _) (fun _ => rfl) (fun v7 => ?_)
        refine ev_br2 (P := v7 = true) (pct := 28) (pcf := 32) (st' := []) (fun _ _ _ kt kf => e_ifeqz dX6_isOneRun_25 (tgt := 32) rfl kt kf) (fun h8 => ?_) (fun h8 => ?_)
        · exact ev_ret (e_iconst dX6_isOneRun_28 (k4 rfl) (e_goto dX6_isOneRun_29 (tgt := 33) rfl (e_iret dX6_isOneRun_33)))
        · exact ev_ret (e_iconst dX6_isOneRun_32 (k4 rfl) (e_iret dX6_isOneRun_33))
      · exact ev_ret (e_iconst dX6_isOneRun_32 (k4 rfl) (e_iret dX6_isOneRun_33))
  · refine ev_st (pc' := 15) (L' := [xI i0, xI i1]) (st' := [xI i0]) (fun _ _ _ k => e_iload_n dX6_isOneRun_14 rfl (i := 0) (x := i0) rfl k) ?_
    refine ev_callS (As := [xI i0]) (st := []) (fun v9 => [xI (xz v9)]) dX6_isOneRun_15 mlX6_55 rfl rfl rfl rfl rfl rfl (c_X6_isDigit (d := d) i0) (fun _ => xz01 _) (fun _ => rfl) (fun v9 => ?_)
    refine ev_br2 (P := v9 = true) (pct := 21) (pcf := 32) (st' := []) (fun _ _ _ kt kf => e_ifeqz dX6_isOneRun_18 (tgt := 32) rfl kt kf) (fun h10 => ?_) (fun h10 => ?_)
    · refine ev_st (pc' := 22) (L' := [xI i0, xI i1]) (st' := [xI i1]) (fun _ _ _ k => e_iload_n dX6_isOneRun_21 rfl (i := 1) (x := i1) rfl k) ?_
      refine ev_callS (As := [xI i1]) (st := []) (fun v11 => [xI (xz v11)]) dX6_isOneRun_22 mlX6_55 rfl rfl rfl rfl rfl rfl (c_X6_isDigit (d := d) i1) (fun _ => xz01 _) (fun _ => rfl) (fun v11 => ?_)
      refine ev_br2 (P := v11 = true) (pct := 28) (pcf := 32) (st' := []) (fun _ _ _ kt kf => e_ifeqz dX6_isOneRun_25 (tgt := 32) rfl kt kf) (fun h12 => ?_) (fun h12 => ?_)
      · exact ev_ret (e_iconst dX6_isOneRun_28 (k4 rfl) (e_goto dX6_isOneRun_29 (tgt := 33) rfl (e_iret dX6_isOneRun_33)))
      · exact ev_ret (e_iconst dX6_isOneRun_32 (k4 rfl) (e_iret dX6_isOneRun_33))
    · exact ev_ret (e_iconst dX6_isOneRun_32 (k4 rfl) (e_iret dX6_isOneRun_33))
def lp_X6_advance_8 (a : Nat) : Nat → xN → (xN → Option (xN)) → Option (xN)
  | 0, _, _ => none
  | n + 1, R, X =>
    if (R a 1) ≤ (R a 2) then
    X R
    else
    (f_X6_at a (R a 2) R).bind (fun v3 =>
    if v3 = 32 then
    xlet (xup R a 2 (w4 ((R a 2) + 1))) (fun R5 =>
    lp_X6_advance_8 a n R5 X)
    else
    X R)
def lp_X6_advance_62 (a : Nat) : Nat → xN → (xN → Option (xN)) → Option (xN)
  | 0, _, _ => none
  | n + 1, R, X =>
    if (R a 1) ≤ (R a 3) then
    X R
    else
    (f_X6_at a (R a 2) R).bind (fun v9 =>
    (f_X6_at a (R a 3) R).bind (fun v10 =>
    (f_X6_isOneRun v9 v10 R).bind (fun v11 =>
    if v11 = true then
    xlet (xup R a 3 (w4 ((R a 3) + 1))) (fun R13 =>
    lp_X6_advance_62 a n R13 X)
    else
    X R)))
def f_X6_advance (a : Nat) (R : xN) : Option (xN) :=
  xlet (xup R a 2 (R a 3)) (fun R1 =>
  lp_X6_advance_8 a 6000 R1 (fun R6 =>
  xlet (xup R6 a 3 (if (R6 a 1) < (w4 ((R6 a 2) + 1)) then (R6 a 1) else (w4 ((R6 a 2) + 1)))) (fun R7 =>
  lp_X6_advance_62 a 6000 R7 (fun R14 =>
  some R14))))
set_option maxRecDepth 20000 in
set_option maxHeartbeats 4000000 in
theorem lc_X6_advance_8 {l : Launch} {g : xG} {d : Nat} {A : xA} {a : Nat} (h_a : sh 6 A a)  {X : xN → Option (xN)} (hX : ∀ (R : xN), Ev l g (d + 2) mX6_advance 45 [xR a] [] A R (fun _ : xN => none) (fun v => v) (X R)) (n : Nat) (R : xN) : Ev l g (d + 2) mX6_advance 8 [xR a] [] A R (fun _ : xN => none) (fun v => v) (lp_X6_advance_8 a n R X) := by
  induction n generalizing R with
  | zero => exact ev_none
  | succ n ih =>
    rw [lp_X6_advance_8]
    refine ev_st (pc' := 16) (L' := [xR a]) (st' := [xI (R a 1), xI (R a 2)]) (fun _ _ _ k => e_aload_n dX6_advance_8 rfl (i := 0) (x := a) rfl (e_geti dX6_advance_9 flX6_19 (kd6_0 h_a) (Or.inl rfl) (e_aload_n dX6_advance_12 rfl (i := 0) (x := a) rfl (e_geti dX6_advance_13 flX6_15 (kd6_0 h_a) (Or.inl rfl) k)))) ?_
    refine ev_br2 (P := (R a 1) ≤ (R a 2)) (pct := 45) (pcf := 19) (st' := []) (fun _ _ _ kt kf => e_cge dX6_advance_16 (tgt := 45) rfl kt kf) (fun h2 => ?_) (fun h2 => ?_)
    · exact hX R
    · refine ev_st (pc' := 24) (L' := [xR a]) (st' := [xI (R a 2), xR a]) (fun _ _ _ k => e_aload_n dX6_advance_19 rfl (i := 0) (x := a) rfl (e_aload_n dX6_advance_20 rfl (i := 0) (x := a) rfl (e_geti dX6_advance_21 flX6_19 (kd6_0 h_a) (Or.inl rfl) k))) ?_
      refine ev_callV (As := [xI (R a 2)]) (st := []) (fun v3 => [xI v3]) dX6_advance_24 mlX6_43 (kd6_0 h_a) rfl rfl rfl rfl rfl rfl (c_X6_at (d := d) h_a (R a 2)) (fun _ => trivial) (fun _ => rfl) (fun v3 => ?_)
      refine ev_st (pc' := 29) (L' := [xR a]) (st' := [xI 32, xI v3]) (fun _ _ _ k => e_bipush dX6_advance_27 rfl (k4 rfl) k) ?_
      refine ev_br2 (P := v3 = 32) (pct := 32) (pcf := 45) (st' := []) (fun _ _ _ kt kf => e_cne dX6_advance_29 (tgt := 45) rfl kt kf) (fun h4 => ?_) (fun h4 => ?_)
      · refine ev_st (pc' := 42) (L' := [xR a]) (st' := []) (fun _ _ _ k => e_aload_n dX6_advance_32 rfl (i := 0) (x := a) rfl (e_dupR dX6_advance_33 (e_geti dX6_advance_34 flX6_19 (kd6_0 h_a) (Or.inl rfl) (e_iconst dX6_advance_37 (k4 rfl) (e_iadd dX6_advance_38 (e_puti dX6_advance_39 flX6_19 (kd6_0 h_a) (Or.inl rfl) rfl k)))))) ?_
        refine ev_letR (fun R5 eR5 => ?_)
        refine ev_st (pc' := 8) (L' := [xR a]) (st' := []) (fun _ _ _ k => e_goto dX6_advance_42 (tgt := 8) rfl k) ?_
        exact ih R5
      · exact hX R
set_option maxRecDepth 20000 in
set_option maxHeartbeats 4000000 in
theorem lc_X6_advance_62 {l : Launch} {g : xG} {d : Nat} {A : xA} {a : Nat} (h_a : sh 6 A a)  {X : xN → Option (xN)} (hX : ∀ (R : xN), Ev l g (d + 2) mX6_advance 108 [xU] [] A R (fun _ : xN => none) (fun v => v) (X R)) (n : Nat) (R : xN) : Ev l g (d + 2) mX6_advance 62 [xR a] [] A R (fun _ : xN => none) (fun v => v) (lp_X6_advance_62 a n R X) := by
  induction n generalizing R with
  | zero => exact ev_none
  | succ n ih =>
    rw [lp_X6_advance_62]
    refine ev_st (pc' := 70) (L' := [xR a]) (st' := [xI (R a 1), xI (R a 3)]) (fun _ _ _ k => e_aload_n dX6_advance_62 rfl (i := 0) (x := a) rfl (e_geti dX6_advance_63 flX6_22 (kd6_0 h_a) (Or.inl rfl) (e_aload_n dX6_advance_66 rfl (i := 0) (x := a) rfl (e_geti dX6_advance_67 flX6_15 (kd6_0 h_a) (Or.inl rfl) k)))) ?_
    refine ev_br2 (P := (R a 1) ≤ (R a 3)) (pct := 108) (pcf := 73) (st' := []) (fun _ _ _ kt kf => e_cge dX6_advance_70 (tgt := 108) rfl kt kf) (fun h8 => ?_) (fun h8 => ?_)
    · refine ev_st (pc' := 108) (L' := [xU]) (st' := []) (fun _ _ _ k => e_fg [0] k) ?_
      exact hX R
    · refine ev_st (pc' := 78) (L' := [xR a]) (st' := [xI (R a 2), xR a]) (fun _ _ _ k => e_aload_n dX6_advance_73 rfl (i := 0) (x := a) rfl (e_aload_n dX6_advance_74 rfl (i := 0) (x := a) rfl (e_geti dX6_advance_75 flX6_19 (kd6_0 h_a) (Or.inl rfl) k))) ?_
      refine ev_callV (As := [xI (R a 2)]) (st := []) (fun v9 => [xI v9]) dX6_advance_78 mlX6_43 (kd6_0 h_a) rfl rfl rfl rfl rfl rfl (c_X6_at (d := d) h_a (R a 2)) (fun _ => trivial) (fun _ => rfl) (fun v9 => ?_)
      refine ev_st (pc' := 86) (L' := [xR a]) (st' := [xI (R a 3), xR a, xI v9]) (fun _ _ _ k => e_aload_n dX6_advance_81 rfl (i := 0) (x := a) rfl (e_aload_n dX6_advance_82 rfl (i := 0) (x := a) rfl (e_geti dX6_advance_83 flX6_22 (kd6_0 h_a) (Or.inl rfl) k))) ?_
      refine ev_callV (As := [xI (R a 3)]) (st := [xI v9]) (fun v10 => [xI v10, xI v9]) dX6_advance_86 mlX6_43 (kd6_0 h_a) rfl rfl rfl rfl rfl rfl (c_X6_at (d := d) h_a (R a 3)) (fun _ => trivial) (fun _ => rfl) (fun v10 => ?_)
      refine ev_callS (As := [xI v9, xI v10]) (st := []) (fun v11 => [xI (xz v11)]) dX6_advance_89 mlX6_47 rfl rfl rfl rfl rfl rfl (c_X6_isOneRun (d := d) v9 v10) (fun _ => xz01 _) (fun _ => rfl) (fun v11 => ?_)
      refine ev_br2 (P := v11 = true) (pct := 95) (pcf := 108) (st' := []) (fun _ _ _ kt kf => e_ifeqz dX6_advance_92 (tgt := 108) rfl kt kf) (fun h12 => ?_) (fun h12 => ?_)
      · refine ev_st (pc' := 105) (L' := [xR a]) (st' := []) (fun _ _ _ k => e_aload_n dX6_advance_95 rfl (i := 0) (x := a) rfl (e_dupR dX6_advance_96 (e_geti dX6_advance_97 flX6_22 (kd6_0 h_a) (Or.inl rfl) (e_iconst dX6_advance_100 (k4 rfl) (e_iadd dX6_advance_101 (e_puti dX6_advance_102 flX6_22 (kd6_0 h_a) (Or.inl rfl) rfl k)))))) ?_
        refine ev_letR (fun R13 eR13 => ?_)
        refine ev_st (pc' := 62) (L' := [xR a]) (st' := []) (fun _ _ _ k => e_goto dX6_advance_105 (tgt := 62) rfl k) ?_
        exact ih R13
      · refine ev_st (pc' := 108) (L' := [xU]) (st' := []) (fun _ _ _ k => e_fg [0] k) ?_
        exact hX R
set_option maxRecDepth 20000 in
set_option maxHeartbeats 4000000 in
theorem c_X6_advance {l : Launch} {g : xG} {d : Nat} {A : xA} {R : xN} {a : Nat} (h_a : sh 6 A a)  : Ev l g (d + 2) mX6_advance 0 [xR a] [] A R (fun _ : xN => none) (fun v => v) (f_X6_advance a R) := by
  rw [f_X6_advance]
  refine ev_st (pc' := 8) (L' := [xR a]) (st' := []) (fun _ _ _ k => e_aload_n dX6_advance_0 rfl (i := 0) (x := a) rfl (e_aload_n dX6_advance_1 rfl (i := 0) (x := a) rfl (e_geti dX6_advance_2 flX6_22 (kd6_0 h_a) (Or.inl rfl) (e_puti dX6_advance_5 flX6_19 (kd6_0 h_a) (Or.inl rfl) rfl k)))) ?_
  refine ev_letR (fun R1 eR1 => ?_)
  refine lc_X6_advance_8 h_a (fun R6 => ?_) 6000 R1
  refine ev_st (pc' := 62) (L' := [xR a]) (st' := []) (fun _ _ _ k => e_aload_n dX6_advance_45 rfl (i := 0) (x := a) rfl (e_aload_n dX6_advance_46 rfl (i := 0) (x := a) rfl (e_geti dX6_advance_47 flX6_19 (kd6_0 h_a) (Or.inl rfl) (e_iconst dX6_advance_50 (k4 rfl) (e_iadd dX6_advance_51 (e_aload_n dX6_advance_52 rfl (i := 0) (x := a) rfl (e_geti dX6_advance_53 flX6_15 (kd6_0 h_a) (Or.inl rfl) (e_min dX6_advance_56 cw_658 cw_544 cw_15 cw_545 rfl (e_puti dX6_advance_59 flX6_22 (kd6_0 h_a) (Or.inl rfl) rfl k))))))))) ?_
  refine ev_letR (fun R7 eR7 => ?_)
  refine lc_X6_advance_62 h_a (fun R14 => ?_) 6000 R7
  exact ev_ret (e_vret dX6_advance_108)
def f_X6_start (a : Nat) (b : Nat) (n_b : Nat) (i1 : Int) (R : xN) : Option (xN) :=
  if (n_b : Int) ≤ 2147483647 then
  xlet (xup R a 1 (if 0 < (if (if 120 < (n_b : Int) then 120 else (n_b : Int)) < i1 then (if 120 < (n_b : Int) then 120 else (n_b : Int)) else i1) then (if (if 120 < (n_b : Int) then 120 else (n_b : Int)) < i1 then (if 120 < (n_b : Int) then 120 else (n_b : Int)) else i1) else 0)) (fun R2 =>
  if 0 ≤ (R2 a 1) ∧ (R2 a 1) ≤ (n_b : Int) ∧ (R2 a 1) ≤ 120 then
  xlet (xcpy R2 b (a + 1) 0 0 ((R2 a 1)).toNat) (fun R4 =>
  xlet (xup R4 a 3 0) (fun R5 =>
  (f_X6_advance a R5).bind (fun v6 =>
  some v6)))
  else none)
  else none
set_option maxRecDepth 20000 in
set_option maxHeartbeats 4000000 in
theorem c_X6_start {l : Launch} {g : xG} {d : Nat} {A : xA} {R : xN} {a : Nat} {b n_b : Nat} (h_a : sh 6 A a) (h_b : A.1 b = (1, n_b)) (i1 : Int) : Ev l g (d + 3) mX6_start 0 [xR a, xR b, xI i1] [] A R (fun _ : xN => none) (fun v => v) (f_X6_start a b n_b i1 R) := by
  rw [f_X6_start]
  refine ev_st (pc' := 4) (L' := [xR a, xR b, xI i1]) (st' := [xR b, xI i1, xI 0, xR a]) (fun _ _ _ k => e_aload_n dX6_start_0 rfl (i := 0) (x := a) rfl (e_iconst dX6_start_1 (k4 rfl) (e_iload_n dX6_start_2 rfl (i := 2) (x := i1) rfl (e_aload_n dX6_start_3 rfl (i := 1) (x := b) rfl k)))) ?_
  refine ev_chk (fun h1 => ?_)
  refine ev_st (pc' := 5) (L' := [xR a, xR b, xI i1]) (st' := [xI (n_b : Int), xI i1, xI 0, xR a]) (fun _ _ _ k => e_alen dX6_start_4 h_b (k4n h1) k) ?_
  refine ev_st (pc' := 19) (L' := [xR a, xR b, xI i1]) (st' := []) (fun _ _ _ k => e_bipush dX6_start_5 rfl (k4 rfl) (e_min dX6_start_7 cw_658 cw_544 cw_15 cw_545 rfl (e_min dX6_start_10 cw_658 cw_544 cw_15 cw_545 rfl (e_max dX6_start_13 cw_659 cw_660 cw_15 cw_661 rfl (e_puti dX6_start_16 flX6_15 (kd6_0 h_a) (Or.inl rfl) rfl k))))) ?_
  refine ev_letR (fun R2 eR2 => ?_)
  refine ev_st (pc' := 30) (L' := [xR a, xR b, xI i1]) (st' := [xI (R2 a 1), xI 0, xR (a + 1), xI 0, xR b]) (fun _ _ _ k => e_aload_n dX6_start_19 rfl (i := 1) (x := b) rfl (e_iconst dX6_start_20 (k4 rfl) (e_aload_n dX6_start_21 rfl (i := 0) (x := a) rfl (e_getr dX6_start_22 flX6_9 (kd6_0 h_a) rfl (rf6_0_0 h_a) (e_iconst dX6_start_25 (k4 rfl) (e_aload_n dX6_start_26 rfl (i := 0) (x := a) rfl (e_geti dX6_start_27 flX6_15 (kd6_0 h_a) (Or.inl rfl) k))))))) ?_
  refine ev_chk (fun h3 => ?_)
  refine ev_st (pc' := 33) (L' := [xR a, xR b, xI i1]) (st' := []) (fun _ _ _ k => e_copy dX6_start_30 cw_662 cw_330 cw_329 cw_13 h_b (kd6_1 h_a) (by decide) (by decide) h3.1 (by omega) (by omega) rfl k) ?_
  refine ev_letR (fun R4 eR4 => ?_)
  refine ev_st (pc' := 38) (L' := [xR a, xR b, xI i1]) (st' := []) (fun _ _ _ k => e_aload_n dX6_start_33 rfl (i := 0) (x := a) rfl (e_iconst dX6_start_34 (k4 rfl) (e_puti dX6_start_35 flX6_22 (kd6_0 h_a) (Or.inl rfl) rfl k))) ?_
  refine ev_letR (fun R5 eR5 => ?_)
  refine ev_st (pc' := 39) (L' := [xR a, xR b, xI i1]) (st' := [xR a]) (fun _ _ _ k => e_aload_n dX6_start_38 rfl (i := 0) (x := a) rfl k) ?_
  refine ev_callV (As := []) (st := []) (fun v6 => []) dX6_start_39 mlX6_40 (kd6_0 h_a) rfl rfl rfl rfl rfl rfl (c_X6_advance (d := d) h_a) (fun _ => trivial) (fun _ => rfl) (fun v6 => ?_)
  exact ev_ret (e_vret dX6_start_42)
def f_X6_hasToken (a : Nat) (R : xN) : Option (Bool) :=
  if (R a 1) ≤ (R a 2) then
  some false
  else
  some true
set_option maxRecDepth 20000 in
set_option maxHeartbeats 4000000 in
theorem c_X6_hasToken {l : Launch} {g : xG} {d : Nat} {A : xA} {R : xN} {a : Nat} (h_a : sh 6 A a)  : Ev l g (d) mX6_hasToken 0 [xR a] [] A R (fun v : Bool => some (xI (xz v))) (fun _ => R) (f_X6_hasToken a R) := by
  rw [f_X6_hasToken]
  refine ev_st (pc' := 8) (L' := [xR a]) (st' := [xI (R a 1), xI (R a 2)]) (fun _ _ _ k => e_aload_n dX6_hasToken_0 rfl (i := 0) (x := a) rfl (e_geti dX6_hasToken_1 flX6_19 (kd6_0 h_a) (Or.inl rfl) (e_aload_n dX6_hasToken_4 rfl (i := 0) (x := a) rfl (e_geti dX6_hasToken_5 flX6_15 (kd6_0 h_a) (Or.inl rfl) k)))) ?_
  refine ev_br2 (P := (R a 1) ≤ (R a 2)) (pct := 15) (pcf := 11) (st' := []) (fun _ _ _ kt kf => e_cge dX6_hasToken_8 (tgt := 15) rfl kt kf) (fun h1 => ?_) (fun h1 => ?_)
  · exact ev_ret (e_iconst dX6_hasToken_15 (k4 rfl) (e_iret dX6_hasToken_16))
  · exact ev_ret (e_iconst dX6_hasToken_11 (k4 rfl) (e_goto dX6_hasToken_12 (tgt := 16) rfl (e_iret dX6_hasToken_16)))
def lp_X6_isWord_20 (a : Nat) (p1 : Nat) (R : xN) : Nat → Int → (Int → Option (Bool)) → Option (Bool)
  | 0, _, _ => none
  | n + 1, y2, X =>
    if xsok p1 = true then
    if p1 < 15 then
    if (xslenI p1) ≤ y2 then
    X y2
    else
    (f_X6_at a (w4 ((R a 2) + y2)) R).bind (fun v7 =>
    if xsok p1 = true then
    if p1 < 15 ∧ 0 ≤ y2 ∧ y2 < xslenI p1 then
    if v7 = (xcharI p1 y2) then
    xlet (w4 (y2 + 1)) (fun x11 =>
    lp_X6_isWord_20 a p1 R n x11 X)
    else
    some false
    else none
    else none)
    else none
    else none
def f_X6_isWord (a : Nat) (k0 : Nat) (R : xN) : Option (Bool) :=
  if xsok k0 = true then
  if k0 < 15 then
  if (xslenI k0) = (w4 ((R a 3) - (R a 2))) then
  lp_X6_isWord_20 a k0 R 6000 0 (fun z12 =>
  some true)
  else
  some false
  else none
  else none
set_option maxRecDepth 20000 in
set_option maxHeartbeats 4000000 in
theorem lc_X6_isWord_20 {l : Launch} {g : xG} {d : Nat} {A : xA} {a : Nat} (h_a : sh 6 A a) (p1 : Nat) (R : xN) {X : Int → Option (Bool)} (hX : ∀ (y2 : Int), Ev l g (d + 5) mX6_isWord 54 [xU, xU, xU] [] A R (fun v : Bool => some (xI (xz v))) (fun _ => R) (X y2)) (n : Nat) (y2 : Int) : Ev l g (d + 5) mX6_isWord 20 [xR a, xS p1, xI y2] [] A R (fun v : Bool => some (xI (xz v))) (fun _ => R) (lp_X6_isWord_20 a p1 R n y2 X) := by
  induction n generalizing y2 with
  | zero => exact ev_none
  | succ n ih =>
    rw [lp_X6_isWord_20]
    refine ev_st (pc' := 21) (L' := [xR a, xS p1, xI y2]) (st' := [xI y2]) (fun _ _ _ k => e_iload_n dX6_isWord_20 rfl (i := 2) (x := y2) rfl k) ?_
    refine ev_chk (fun h4 => ?_)
    refine ev_st (pc' := 22) (L' := [xR a, xS p1, xI y2]) (st' := [xS p1, xI y2]) (fun _ _ _ k => e_aload_nS dX6_isWord_21 rfl (i := 1) (x := p1) rfl h4 k) ?_
    refine ev_chk (fun h5 => ?_)
    refine ev_st (pc' := 25) (L' := [xR a, xS p1, xI y2]) (st' := [xI (xslenI p1), xI y2]) (fun _ _ _ k => e_slen dX6_isWord_22 mlX6_62 h5 rfl k) ?_
    refine ev_br2 (P := (xslenI p1) ≤ y2) (pct := 54) (pcf := 28) (st' := []) (fun _ _ _ kt kf => e_cge dX6_isWord_25 (tgt := 54) rfl kt kf) (fun h6 => ?_) (fun h6 => ?_)
    · refine ev_st (pc' := 54) (L' := [xU, xU, xU]) (st' := []) (fun _ _ _ k => e_fg [0, 1, 2] k) ?_
      exact hX y2
    · refine ev_st (pc' := 35) (L' := [xR a, xS p1, xI y2]) (st' := [xI (w4 ((R a 2) + y2)), xR a]) (fun _ _ _ k => e_aload_n dX6_isWord_28 rfl (i := 0) (x := a) rfl (e_aload_n dX6_isWord_29 rfl (i := 0) (x := a) rfl (e_geti dX6_isWord_30 flX6_19 (kd6_0 h_a) (Or.inl rfl) (e_iload_n dX6_isWord_33 rfl (i := 2) (x := y2) rfl (e_iadd dX6_isWord_34 k))))) ?_
      refine ev_callV (As := [xI (w4 ((R a 2) + y2))]) (st := []) (fun v7 => [xI v7]) dX6_isWord_35 mlX6_43 (kd6_0 h_a) rfl rfl rfl rfl rfl rfl (c_X6_at (d := d + 3) h_a (w4 ((R a 2) + y2))) (fun _ => trivial) (fun _ => rfl) (fun v7 => ?_)
      refine ev_chk (fun h8 => ?_)
      refine ev_st (pc' := 39) (L' := [xR a, xS p1, xI y2]) (st' := [xS p1, xI v7]) (fun _ _ _ k => e_aload_nS dX6_isWord_38 rfl (i := 1) (x := p1) rfl h8 k) ?_
      refine ev_st (pc' := 40) (L' := [xR a, xS p1, xI y2]) (st' := [xI y2, xS p1, xI v7]) (fun _ _ _ k => e_iload_n dX6_isWord_39 rfl (i := 2) (x := y2) rfl k) ?_
      refine ev_chk (fun h9 => ?_)
      refine ev_st (pc' := 43) (L' := [xR a, xS p1, xI y2]) (st' := [xI (xcharI p1 y2), xI v7]) (fun _ _ _ k => e_schar dX6_isWord_40 mlX6_67 h9.1 h9.2.1 h9.2.2 rfl k) ?_
      refine ev_br2 (P := v7 = (xcharI p1 y2)) (pct := 48) (pcf := 46) (st' := []) (fun _ _ _ kt kf => e_ceq dX6_isWord_43 (tgt := 48) rfl kt kf) (fun h10 => ?_) (fun h10 => ?_)
      · refine ev_letx (fun x11 ex11 => ?_)
        refine ev_st (pc' := 51) (L' := [xR a, xS p1, xI x11]) (st' := []) (fun _ _ _ k => e_iinc dX6_isWord_48 (i := 2) rfl (x := y2) rfl (y := x11) ex11 (L' := [xR a, xS p1, xI x11]) rfl k) ?_
        refine ev_st (pc' := 20) (L' := [xR a, xS p1, xI x11]) (st' := []) (fun _ _ _ k => e_goto dX6_isWord_51 (tgt := 20) rfl k) ?_
        exact ih x11
      · exact ev_ret (e_iconst dX6_isWord_46 (k4 rfl) (e_iret dX6_isWord_47))
set_option maxRecDepth 20000 in
set_option maxHeartbeats 4000000 in
theorem c_X6_isWord {l : Launch} {g : xG} {d : Nat} {A : xA} {R : xN} {a : Nat} (h_a : sh 6 A a) (k0 : Nat) : Ev l g (d + 5) mX6_isWord 0 [xR a, xS k0, xU] [] A R (fun v : Bool => some (xI (xz v))) (fun _ => R) (f_X6_isWord a k0 R) := by
  rw [f_X6_isWord]
  refine ev_chk (fun h1 => ?_)
  refine ev_st (pc' := 1) (L' := [xR a, xS k0, xU]) (st' := [xS k0]) (fun _ _ _ k => e_aload_nS dX6_isWord_0 rfl (i := 1) (x := k0) rfl h1 k) ?_
  refine ev_chk (fun h2 => ?_)
  refine ev_st (pc' := 4) (L' := [xR a, xS k0, xU]) (st' := [xI (xslenI k0)]) (fun _ _ _ k => e_slen dX6_isWord_1 mlX6_62 h2 rfl k) ?_
  refine ev_st (pc' := 13) (L' := [xR a, xS k0, xU]) (st' := [xI (w4 ((R a 3) - (R a 2))), xI (xslenI k0)]) (fun _ _ _ k => e_aload_n dX6_isWord_4 rfl (i := 0) (x := a) rfl (e_geti dX6_isWord_5 flX6_22 (kd6_0 h_a) (Or.inl rfl) (e_aload_n dX6_isWord_8 rfl (i := 0) (x := a) rfl (e_geti dX6_isWord_9 flX6_19 (kd6_0 h_a) (Or.inl rfl) (e_isub dX6_isWord_12 k))))) ?_
  refine ev_br2 (P := (xslenI k0) = (w4 ((R a 3) - (R a 2)))) (pct := 18) (pcf := 16) (st' := []) (fun _ _ _ kt kf => e_ceq dX6_isWord_13 (tgt := 18) rfl kt kf) (fun h3 => ?_) (fun h3 => ?_)
  · refine ev_st (pc' := 20) (L' := [xR a, xS k0, xI 0]) (st' := []) (fun _ _ _ k => e_iconst dX6_isWord_18 (k4 rfl) (e_istore_n dX6_isWord_19 rfl (i := 2) rfl (L' := [xR a, xS k0, xI 0]) rfl k)) ?_
    refine lc_X6_isWord_20 h_a k0 R (fun z12 => ?_) 6000 0
    exact ev_ret (e_iconst dX6_isWord_54 (k4 rfl) (e_iret dX6_isWord_55))
  · exact ev_ret (e_iconst dX6_isWord_16 (k4 rfl) (e_iret dX6_isWord_17))
def f_X6_isCharacter (a : Nat) (i0 : Int) (R : xN) : Option (Bool) :=
  (f_X6_hasToken a R).bind (fun v1 =>
  if v1 = true then
  (f_X6_at a (R a 2) R).bind (fun v3 =>
  if v3 = i0 then
  some true
  else
  some false)
  else
  some false)
set_option maxRecDepth 20000 in
set_option maxHeartbeats 4000000 in
theorem c_X6_isCharacter {l : Launch} {g : xG} {d : Nat} {A : xA} {R : xN} {a : Nat} (h_a : sh 6 A a) (i0 : Int) : Ev l g (d + 2) mX6_isCharacter 0 [xR a, xI i0] [] A R (fun v : Bool => some (xI (xz v))) (fun _ => R) (f_X6_isCharacter a i0 R) := by
  rw [f_X6_isCharacter]
  refine ev_st (pc' := 1) (L' := [xR a, xI i0]) (st' := [xR a]) (fun _ _ _ k => e_aload_n dX6_isCharacter_0 rfl (i := 0) (x := a) rfl k) ?_
  refine ev_callV (As := []) (st := []) (fun v1 => [xI (xz v1)]) dX6_isCharacter_1 mlX6_71 (kd6_0 h_a) rfl rfl rfl rfl rfl rfl (c_X6_hasToken (d := d + 1) h_a) (fun _ => xz01 _) (fun _ => rfl) (fun v1 => ?_)
  refine ev_br2 (P := v1 = true) (pct := 7) (pcf := 23) (st' := []) (fun _ _ _ kt kf => e_ifeqz dX6_isCharacter_4 (tgt := 23) rfl kt kf) (fun h2 => ?_) (fun h2 => ?_)
  · refine ev_st (pc' := 12) (L' := [xR a, xI i0]) (st' := [xI (R a 2), xR a]) (fun _ _ _ k => e_aload_n dX6_isCharacter_7 rfl (i := 0) (x := a) rfl (e_aload_n dX6_isCharacter_8 rfl (i := 0) (x := a) rfl (e_geti dX6_isCharacter_9 flX6_19 (kd6_0 h_a) (Or.inl rfl) k))) ?_
    refine ev_callV (As := [xI (R a 2)]) (st := []) (fun v3 => [xI v3]) dX6_isCharacter_12 mlX6_43 (kd6_0 h_a) rfl rfl rfl rfl rfl rfl (c_X6_at (d := d) h_a (R a 2)) (fun _ => trivial) (fun _ => rfl) (fun v3 => ?_)
    refine ev_st (pc' := 16) (L' := [xR a, xI i0]) (st' := [xI i0, xI v3]) (fun _ _ _ k => e_iload_n dX6_isCharacter_15 rfl (i := 1) (x := i0) rfl k) ?_
    refine ev_br2 (P := v3 = i0) (pct := 19) (pcf := 23) (st' := []) (fun _ _ _ kt kf => e_cne dX6_isCharacter_16 (tgt := 23) rfl kt kf) (fun h4 => ?_) (fun h4 => ?_)
    · exact ev_ret (e_iconst dX6_isCharacter_19 (k4 rfl) (e_goto dX6_isCharacter_20 (tgt := 24) rfl (e_iret dX6_isCharacter_24)))
    · exact ev_ret (e_iconst dX6_isCharacter_23 (k4 rfl) (e_iret dX6_isCharacter_24))
  · exact ev_ret (e_iconst dX6_isCharacter_23 (k4 rfl) (e_iret dX6_isCharacter_24))
def f_X6_isNumber (a : Nat) (R : xN) : Option (Bool) :=
  xlet (w4 ((R a 3) - (R a 2))) (fun x1 =>
  if x1 = 1 then
  (f_X9_isIn x1 1 4 R).bind (fun v3 =>
  if v3 = true then
  (f_X6_at a (R a 2) R).bind (fun v5 =>
  (f_X6_isDigit v5 R).bind (fun v6 =>
  if v6 = true then
  some true
  else
  some false))
  else
  some false)
  else
  (f_X6_at a (R a 2) R).bind (fun v8 =>
  if v8 = 48 then
  (f_X9_isIn x1 1 4 R).bind (fun v10 =>
  if v10 = true then
  (f_X6_at a (R a 2) R).bind (fun v12 =>
  (f_X6_isDigit v12 R).bind (fun v13 =>
  if v13 = true then
  some false
  else
  some false))
  else
  some false)
  else
  (f_X9_isIn x1 1 4 R).bind (fun v15 =>
  if v15 = true then
  (f_X6_at a (R a 2) R).bind (fun v17 =>
  (f_X6_isDigit v17 R).bind (fun v18 =>
  if v18 = true then
  some true
  else
  some false))
  else
  some false)))
set_option maxRecDepth 20000 in
set_option maxHeartbeats 4000000 in
theorem c_X6_isNumber {l : Launch} {g : xG} {d : Nat} {A : xA} {R : xN} {a : Nat} (h_a : sh 6 A a)  : Ev l g (d + 2) mX6_isNumber 0 [xR a, xU, xU] [] A R (fun v : Bool => some (xI (xz v))) (fun _ => R) (f_X6_isNumber a R) := by
  rw [f_X6_isNumber]
  refine ev_st (pc' := 9) (L' := [xR a, xU, xU]) (st' := [xI (w4 ((R a 3) - (R a 2)))]) (fun _ _ _ k => e_aload_n dX6_isNumber_0 rfl (i := 0) (x := a) rfl (e_geti dX6_isNumber_1 flX6_22 (kd6_0 h_a) (Or.inl rfl) (e_aload_n dX6_isNumber_4 rfl (i := 0) (x := a) rfl (e_geti dX6_isNumber_5 flX6_19 (kd6_0 h_a) (Or.inl rfl) (e_isub dX6_isNumber_8 k))))) ?_
  refine ev_leti (fun x1 ex1 => ?_)
  refine ev_st (pc' := 10) (L' := [xR a, xI x1, xU]) (st' := []) (fun _ _ _ k => e_istore_n dX6_isNumber_9 rfl (i := 1) rfl (L' := [xR a, xI x1, xU]) rfl k) ?_
  refine ev_st (pc' := 12) (L' := [xR a, xI x1, xU]) (st' := [xI 1, xI x1]) (fun _ _ _ k => e_iload_n dX6_isNumber_10 rfl (i := 1) (x := x1) rfl (e_iconst dX6_isNumber_11 (k4 rfl) k)) ?_
  refine ev_br2 (P := x1 = 1) (pct := 28) (pcf := 15) (st' := []) (fun _ _ _ kt kf => e_ceq dX6_isNumber_12 (tgt := 28) rfl kt kf) (fun h2 => ?_) (fun h2 => ?_)
  · refine ev_st (pc' := 37) (L' := [xR a, xI x1, xI 1]) (st' := [xI 4, xI 1, xI x1]) (fun _ _ _ k => e_iconst dX6_isNumber_28 (k4 rfl) (e_goto dX6_isNumber_29 (tgt := 33) rfl (e_istore_n dX6_isNumber_33 rfl (i := 2) rfl (L' := [xR a, xI x1, xI 1]) rfl (e_iload_n dX6_isNumber_34 rfl (i := 1) (x := x1) rfl (e_iconst dX6_isNumber_35 (k4 rfl) (e_iconst dX6_isNumber_36 (k4 rfl) k)))))) ?_
    refine ev_callN (As := [xI x1, xI 1, xI 4]) (st := []) (fun v3 => [xI (xz v3)]) dX6_isNumber_37 mlX6_58 rfl rfl rfl rfl rfl rfl (c_X9_isIn (d := d + 1) x1 1 4) (fun _ => xz01 _) (fun _ => rfl) (fun v3 => ?_)
    refine ev_br2 (P := v3 = true) (pct := 43) (pcf := 65) (st' := []) (fun _ _ _ kt kf => e_ifeqz dX6_isNumber_40 (tgt := 65) rfl kt kf) (fun h4 => ?_) (fun h4 => ?_)
    · refine ev_st (pc' := 48) (L' := [xR a, xI x1, xI 1]) (st' := [xI (R a 2), xR a]) (fun _ _ _ k => e_aload_n dX6_isNumber_43 rfl (i := 0) (x := a) rfl (e_aload_n dX6_isNumber_44 rfl (i := 0) (x := a) rfl (e_geti dX6_isNumber_45 flX6_19 (kd6_0 h_a) (Or.inl rfl) k))) ?_
      refine ev_callV (As := [xI (R a 2)]) (st := []) (fun v5 => [xI v5]) dX6_isNumber_48 mlX6_43 (kd6_0 h_a) rfl rfl rfl rfl rfl rfl (c_X6_at (d := d) h_a (R a 2)) (fun _ => trivial) (fun _ => rfl) (fun v5 => ?_)
      refine ev_callS (As := [xI v5]) (st := []) (fun v6 => [xI (xz v6)]) dX6_isNumber_51 mlX6_55 rfl rfl rfl rfl rfl rfl (c_X6_isDigit (d := d + 1) v5) (fun _ => xz01 _) (fun _ => rfl) (fun v6 => ?_)
      refine ev_br2 (P := v6 = true) (pct := 57) (pcf := 65) (st' := []) (fun _ _ _ kt kf => e_ifeqz dX6_isNumber_54 (tgt := 65) rfl kt kf) (fun h7 => ?_) (fun h7 => ?_)
      · refine ev_st (pc' := 61) (L' := [xR a, xI x1, xI 1]) (st' := []) (fun _ _ _ k => e_iload_n dX6_isNumber_57 rfl (i := 2) (x := 1) rfl (e_ifeqF dX6_isNumber_58 (tgt := 65) rfl (by decide) k)) ?_
        exact ev_ret (e_iconst dX6_isNumber_61 (k4 rfl) (e_goto dX6_isNumber_62 (tgt := 66) rfl (e_iret dX6_isNumber_66)))
      · exact ev_ret (e_iconst dX6_isNumber_65 (k4 rfl) (e_iret dX6_isNumber_66))
    · exact ev_ret (e_iconst dX6_isNumber_65 (k4 rfl) (e_iret dX6_isNumber_66))
  · refine ev_st (pc' := 20) (L' := [xR a, xI x1, xU]) (st' := [xI (R a 2), xR a]) (fun _ _ _ k => e_aload_n dX6_isNumber_15 rfl (i := 0) (x := a) rfl (e_aload_n dX6_isNumber_16 rfl (i := 0) (x := a) rfl (e_geti dX6_isNumber_17 flX6_19 (kd6_0 h_a) (Or.inl rfl) k))) ?_
    refine ev_callV (As := [xI (R a 2)]) (st := []) (fun v8 => [xI v8]) dX6_isNumber_20 mlX6_43 (kd6_0 h_a) rfl rfl rfl rfl rfl rfl (c_X6_at (d := d) h_a (R a 2)) (fun _ => trivial) (fun _ => rfl) (fun v8 => ?_)
    refine ev_st (pc' := 25) (L' := [xR a, xI x1, xU]) (st' := [xI 48, xI v8]) (fun _ _ _ k => e_bipush dX6_isNumber_23 rfl (k4 rfl) k) ?_
    refine ev_br2 (P := v8 = 48) (pct := 32) (pcf := 28) (st' := []) (fun _ _ _ kt kf => e_ceq dX6_isNumber_25 (tgt := 32) rfl kt kf) (fun h9 => ?_) (fun h9 => ?_)
    · refine ev_st (pc' := 37) (L' := [xR a, xI x1, xI 0]) (st' := [xI 4, xI 1, xI x1]) (fun _ _ _ k => e_iconst dX6_isNumber_32 (k4 rfl) (e_istore_n dX6_isNumber_33 rfl (i := 2) rfl (L' := [xR a, xI x1, xI 0]) rfl (e_iload_n dX6_isNumber_34 rfl (i := 1) (x := x1) rfl (e_iconst dX6_isNumber_35 (k4 rfl) (e_iconst dX6_isNumber_36 (k4 rfl) k))))) ?_
      refine ev_callN (As := [xI x1, xI 1, xI 4]) (st := []) (fun v10 => [xI (xz v10)]) dX6_isNumber_37 mlX6_58 rfl rfl rfl rfl rfl rfl (c_X9_isIn (d := d + 1) x1 1 4) (fun _ => xz01 _) (fun _ => rfl) (fun v10 => ?_)
      refine ev_br2 (P := v10 = true) (pct := 43) (pcf := 65) (st' := []) (fun _ _ _ kt kf => e_ifeqz dX6_isNumber_40 (tgt := 65) rfl kt kf) (fun h11 => ?_) (fun h11 => ?_)
      · refine ev_st (pc' := 48) (L' := [xR a, xI x1, xI 0]) (st' := [xI (R a 2), xR a]) (fun _ _ _ k => e_aload_n dX6_isNumber_43 rfl (i := 0) (x := a) rfl (e_aload_n dX6_isNumber_44 rfl (i := 0) (x := a) rfl (e_geti dX6_isNumber_45 flX6_19 (kd6_0 h_a) (Or.inl rfl) k))) ?_
        refine ev_callV (As := [xI (R a 2)]) (st := []) (fun v12 => [xI v12]) dX6_isNumber_48 mlX6_43 (kd6_0 h_a) rfl rfl rfl rfl rfl rfl (c_X6_at (d := d) h_a (R a 2)) (fun _ => trivial) (fun _ => rfl) (fun v12 => ?_)
        refine ev_callS (As := [xI v12]) (st := []) (fun v13 => [xI (xz v13)]) dX6_isNumber_51 mlX6_55 rfl rfl rfl rfl rfl rfl (c_X6_isDigit (d := d + 1) v12) (fun _ => xz01 _) (fun _ => rfl) (fun v13 => ?_)
        refine ev_br2 (P := v13 = true) (pct := 57) (pcf := 65) (st' := []) (fun _ _ _ kt kf => e_ifeqz dX6_isNumber_54 (tgt := 65) rfl kt kf) (fun h14 => ?_) (fun h14 => ?_)
        · refine ev_st (pc' := 65) (L' := [xR a, xI x1, xI 0]) (st' := []) (fun _ _ _ k => e_iload_n dX6_isNumber_57 rfl (i := 2) (x := 0) rfl (e_ifeqT dX6_isNumber_58 (tgt := 65) rfl (by decide) k)) ?_
          exact ev_ret (e_iconst dX6_isNumber_65 (k4 rfl) (e_iret dX6_isNumber_66))
        · exact ev_ret (e_iconst dX6_isNumber_65 (k4 rfl) (e_iret dX6_isNumber_66))
      · exact ev_ret (e_iconst dX6_isNumber_65 (k4 rfl) (e_iret dX6_isNumber_66))
    · refine ev_st (pc' := 37) (L' := [xR a, xI x1, xI 1]) (st' := [xI 4, xI 1, xI x1]) (fun _ _ _ k => e_iconst dX6_isNumber_28 (k4 rfl) (e_goto dX6_isNumber_29 (tgt := 33) rfl (e_istore_n dX6_isNumber_33 rfl (i := 2) rfl (L' := [xR a, xI x1, xI 1]) rfl (e_iload_n dX6_isNumber_34 rfl (i := 1) (x := x1) rfl (e_iconst dX6_isNumber_35 (k4 rfl) (e_iconst dX6_isNumber_36 (k4 rfl) k)))))) ?_
      refine ev_callN (As := [xI x1, xI 1, xI 4]) (st := []) (fun v15 => [xI (xz v15)]) dX6_isNumber_37 mlX6_58 rfl rfl rfl rfl rfl rfl (c_X9_isIn (d := d + 1) x1 1 4) (fun _ => xz01 _) (fun _ => rfl) (fun v15 => ?_)
      refine ev_br2 (P := v15 = true) (pct := 43) (pcf := 65) (st' := []) (fun _ _ _ kt kf => e_ifeqz dX6_isNumber_40 (tgt := 65) rfl kt kf) (fun h16 => ?_) (fun h16 => ?_)
      · refine ev_st (pc' := 48) (L' := [xR a, xI x1, xI 1]) (st' := [xI (R a 2), xR a]) (fun _ _ _ k => e_aload_n dX6_isNumber_43 rfl (i := 0) (x := a) rfl (e_aload_n dX6_isNumber_44 rfl (i := 0) (x := a) rfl (e_geti dX6_isNumber_45 flX6_19 (kd6_0 h_a) (Or.inl rfl) k))) ?_
        refine ev_callV (As := [xI (R a 2)]) (st := []) (fun v17 => [xI v17]) dX6_isNumber_48 mlX6_43 (kd6_0 h_a) rfl rfl rfl rfl rfl rfl (c_X6_at (d := d) h_a (R a 2)) (fun _ => trivial) (fun _ => rfl) (fun v17 => ?_)
        refine ev_callS (As := [xI v17]) (st := []) (fun v18 => [xI (xz v18)]) dX6_isNumber_51 mlX6_55 rfl rfl rfl rfl rfl rfl (c_X6_isDigit (d := d + 1) v17) (fun _ => xz01 _) (fun _ => rfl) (fun v18 => ?_)
        refine ev_br2 (P := v18 = true) (pct := 57) (pcf := 65) (st' := []) (fun _ _ _ kt kf => e_ifeqz dX6_isNumber_54 (tgt := 65) rfl kt kf) (fun h19 => ?_) (fun h19 => ?_)
        · refine ev_st (pc' := 61) (L' := [xR a, xI x1, xI 1]) (st' := []) (fun _ _ _ k => e_iload_n dX6_isNumber_57 rfl (i := 2) (x := 1) rfl (e_ifeqF dX6_isNumber_58 (tgt := 65) rfl (by decide) k)) ?_
          exact ev_ret (e_iconst dX6_isNumber_61 (k4 rfl) (e_goto dX6_isNumber_62 (tgt := 66) rfl (e_iret dX6_isNumber_66)))
        · exact ev_ret (e_iconst dX6_isNumber_65 (k4 rfl) (e_iret dX6_isNumber_66))
      · exact ev_ret (e_iconst dX6_isNumber_65 (k4 rfl) (e_iret dX6_isNumber_66))
def lp_X6_numberValue_7 (a : Nat) (R : xN) : Nat → Int → Int → (Int → Int → Option (Int)) → Option (Int)
  | 0, _, _, _ => none
  | n + 1, y1, y2, X =>
    if (R a 3) ≤ y2 then
    X y1 y2
    else
    (f_X6_at a y2 R).bind (fun v3 =>
    xlet (w4 ((w4 ((w4 (y1 * 10)) + v3)) - 48)) (fun x4 =>
    xlet (w4 (y2 + 1)) (fun x5 =>
    lp_X6_numberValue_7 a R n x4 x5 X)))
def f_X6_numberValue (a : Nat) (R : xN) : Option (Int) :=
  xlet (R a 2) (fun x1 =>
  lp_X6_numberValue_7 a R 6000 0 x1 (fun z6 z7 =>
  some z6))
set_option maxRecDepth 20000 in
set_option maxHeartbeats 4000000 in
theorem lc_X6_numberValue_7 {l : Launch} {g : xG} {d : Nat} {A : xA} {a : Nat} (h_a : sh 6 A a) (R : xN) {X : Int → Int → Option (Int)} (hX : ∀ (y1 : Int) (y2 : Int), Ev l g (d + 2) mX6_numberValue 35 [xU, xI y1, xU] [] A R (fun v : Int => some (xI v)) (fun _ => R) (X y1 y2)) (n : Nat) (y1 : Int) (y2 : Int) : Ev l g (d + 2) mX6_numberValue 7 [xR a, xI y1, xI y2] [] A R (fun v : Int => some (xI v)) (fun _ => R) (lp_X6_numberValue_7 a R n y1 y2 X) := by
  induction n generalizing y1 y2 with
  | zero => exact ev_none
  | succ n ih =>
    rw [lp_X6_numberValue_7]
    refine ev_st (pc' := 12) (L' := [xR a, xI y1, xI y2]) (st' := [xI (R a 3), xI y2]) (fun _ _ _ k => e_iload_n dX6_numberValue_7 rfl (i := 2) (x := y2) rfl (e_aload_n dX6_numberValue_8 rfl (i := 0) (x := a) rfl (e_geti dX6_numberValue_9 flX6_22 (kd6_0 h_a) (Or.inl rfl) k))) ?_
    refine ev_br2 (P := (R a 3) ≤ y2) (pct := 35) (pcf := 15) (st' := []) (fun _ _ _ kt kf => e_cge dX6_numberValue_12 (tgt := 35) rfl kt kf) (fun h2 => ?_) (fun h2 => ?_)
    · refine ev_st (pc' := 35) (L' := [xU, xI y1, xU]) (st' := []) (fun _ _ _ k => e_fg [0, 2] k) ?_
      exact hX y1 y2
    · refine ev_st (pc' := 21) (L' := [xR a, xI y1, xI y2]) (st' := [xI y2, xR a, xI (w4 (y1 * 10))]) (fun _ _ _ k => e_iload_n dX6_numberValue_15 rfl (i := 1) (x := y1) rfl (e_bipush dX6_numberValue_16 rfl (k4 rfl) (e_imul dX6_numberValue_18 (e_aload_n dX6_numberValue_19 rfl (i := 0) (x := a) rfl (e_iload_n dX6_numberValue_20 rfl (i := 2) (x := y2) rfl k))))) ?_
      refine ev_callV (As := [xI y2]) (st := [xI (w4 (y1 * 10))]) (fun v3 => [xI v3, xI (w4 (y1 * 10))]) dX6_numberValue_21 mlX6_43 (kd6_0 h_a) rfl rfl rfl rfl rfl rfl (c_X6_at (d := d) h_a y2) (fun _ => trivial) (fun _ => rfl) (fun v3 => ?_)
      refine ev_st (pc' := 28) (L' := [xR a, xI y1, xI y2]) (st' := [xI (w4 ((w4 ((w4 (y1 * 10)) + v3)) - 48))]) (fun _ _ _ k => e_iadd dX6_numberValue_24 (e_bipush dX6_numberValue_25 rfl (k4 rfl) (e_isub dX6_numberValue_27 k))) ?_
      refine ev_leti (fun x4 ex4 => ?_)
      refine ev_st (pc' := 29) (L' := [xR a, xI x4, xI y2]) (st' := []) (fun _ _ _ k => e_istore_n dX6_numberValue_28 rfl (i := 1) rfl (L' := [xR a, xI x4, xI y2]) rfl k) ?_
      refine ev_letx (fun x5 ex5 => ?_)
      refine ev_st (pc' := 32) (L' := [xR a, xI x4, xI x5]) (st' := []) (fun _ _ _ k => e_iinc dX6_numberValue_29 (i := 2) rfl (x := y2) rfl (y := x5) ex5 (L' := [xR a, xI x4, xI x5]) rfl k) ?_
      refine ev_st (pc' := 7) (L' := [xR a, xI x4, xI x5]) (st' := []) (fun _ _ _ k => e_goto dX6_numberValue_32 (tgt := 7) rfl k) ?_
      exact ih x4 x5
set_option maxRecDepth 20000 in
set_option maxHeartbeats 4000000 in
theorem c_X6_numberValue {l : Launch} {g : xG} {d : Nat} {A : xA} {R : xN} {a : Nat} (h_a : sh 6 A a)  : Ev l g (d + 2) mX6_numberValue 0 [xR a, xU, xU] [] A R (fun v : Int => some (xI v)) (fun _ => R) (f_X6_numberValue a R) := by
  rw [f_X6_numberValue]
  refine ev_st (pc' := 6) (L' := [xR a, xI 0, xU]) (st' := [xI (R a 2)]) (fun _ _ _ k => e_iconst dX6_numberValue_0 (k4 rfl) (e_istore_n dX6_numberValue_1 rfl (i := 1) rfl (L' := [xR a, xI 0, xU]) rfl (e_aload_n dX6_numberValue_2 rfl (i := 0) (x := a) rfl (e_geti dX6_numberValue_3 flX6_19 (kd6_0 h_a) (Or.inl rfl) k)))) ?_
  refine ev_leti (fun x1 ex1 => ?_)
  refine ev_st (pc' := 7) (L' := [xR a, xI 0, xI x1]) (st' := []) (fun _ _ _ k => e_istore_n dX6_numberValue_6 rfl (i := 2) rfl (L' := [xR a, xI 0, xI x1]) rfl k) ?_
  refine lc_X6_numberValue_7 h_a R (fun z6 z7 => ?_) 6000 0 x1
  exact ev_ret (e_iload_n dX6_numberValue_35 rfl (i := 1) (x := z6) rfl (e_iret dX6_numberValue_36))
def f_X8_fillSlot (a : Nat) (i0 : Int) (R : xN) : Option (Int × xN) :=
  (f_X9_isIn i0 0 1 R).bind (fun v1 =>
  if v1 = true then
  if 0 ≤ i0 ∧ i0 < 2 then
  (f_X0_copyFrom (a + 16 + 14 * (i0).toNat) (a + 1) R).bind (fun v4 =>
  xlet (xup v4 a 2 (b4or (v4 a 2) (b4shl 1 i0))) (fun R5 =>
  some ((R5 (a + 5) 5), R5)))
  else none
  else
  some ((-1), R))
set_option maxRecDepth 20000 in
set_option maxHeartbeats 4000000 in
theorem c_X8_fillSlot {l : Launch} {g : xG} {d : Nat} {A : xA} {R : xN} {a : Nat} (h_a : sh 8 A a) (i0 : Int) : Ev l g (d + 3) mX8_fillSlot 0 [xR a, xI i0] [] A R (fun v : Int × xN => some (xI v.1)) (fun v => v.2) (f_X8_fillSlot a i0 R) := by
  rw [f_X8_fillSlot]
  refine ev_st (pc' := 3) (L' := [xR a, xI i0]) (st' := [xI 1, xI 0, xI i0]) (fun _ _ _ k => e_iload_n dX8_fillSlot_0 rfl (i := 1) (x := i0) rfl (e_iconst dX8_fillSlot_1 (k4 rfl) (e_iconst dX8_fillSlot_2 (k4 rfl) k))) ?_
  refine ev_callN (As := [xI i0, xI 0, xI 1]) (st := []) (fun v1 => [xI (xz v1)]) dX8_fillSlot_3 mlX8_34 rfl rfl rfl rfl rfl rfl (c_X9_isIn (d := d + 2) i0 0 1) (fun _ => xz01 _) (fun _ => rfl) (fun v1 => ?_)
  refine ev_br2 (P := v1 = true) (pct := 11) (pcf := 9) (st' := []) (fun _ _ _ kt kf => e_ifnez dX8_fillSlot_6 (tgt := 11) rfl kt kf) (fun h2 => ?_) (fun h2 => ?_)
  · refine ev_st (pc' := 16) (L' := [xR a, xI i0]) (st' := [xI i0, xR (a + 15)]) (fun _ _ _ k => e_aload_n dX8_fillSlot_11 rfl (i := 0) (x := a) rfl (e_getr dX8_fillSlot_12 flX8_18 (kd8_0 h_a) rfl (rf8_0_1 h_a) (e_iload_n dX8_fillSlot_15 rfl (i := 1) (x := i0) rfl k))) ?_
    refine ev_chk (fun h3 => ?_)
    refine ev_st (pc' := 17) (L' := [xR a, xI i0]) (st' := [xR (a + 16 + 14 * (i0).toNat)]) (fun _ _ _ k => e_aald2 dX8_fillSlot_16 (kd8_15 h_a) h3.1 h3.2 (slot_at h_a h3.1 h3.2) k) ?_
    refine ev_st (pc' := 21) (L' := [xR a, xI i0]) (st' := [xR (a + 1), xR (a + 16 + 14 * (i0).toNat)]) (fun _ _ _ k => e_aload_n dX8_fillSlot_17 rfl (i := 0) (x := a) rfl (e_getr dX8_fillSlot_18 flX8_12 (kd8_0 h_a) rfl (rf8_0_0 h_a) k)) ?_
    refine ev_callV (As := [xR (a + 1)]) (st := []) (fun v4 => []) dX8_fillSlot_21 mlX8_26 (kd0_0 (slot_sh h_a h3.1 h3.2)) rfl rfl rfl rfl rfl rfl (c_X0_copyFrom (d := d) (slot_sh h_a h3.1 h3.2) (sb8_1_0 h_a)) (fun _ => trivial) (fun _ => rfl) (fun v4 => ?_)
    refine ev_st (pc' := 36) (L' := [xR a, xI i0]) (st' := []) (fun _ _ _ k => e_aload_n dX8_fillSlot_24 rfl (i := 0) (x := a) rfl (e_dupR dX8_fillSlot_25 (e_geti dX8_fillSlot_26 flX8_22 (kd8_0 h_a) (Or.inl rfl) (e_iconst dX8_fillSlot_29 (k4 rfl) (e_iload_n dX8_fillSlot_30 rfl (i := 1) (x := i0) rfl (e_ishl dX8_fillSlot_31 (e_ior dX8_fillSlot_32 (e_puti dX8_fillSlot_33 flX8_22 (kd8_0 h_a) (Or.inl rfl) rfl k)))))))) ?_
    refine ev_letR (fun R5 eR5 => ?_)
    exact ev_ret (e_aload_n dX8_fillSlot_36 rfl (i := 0) (x := a) rfl (e_getr dX8_fillSlot_37 flX8_12 (kd8_0 h_a) rfl (rf8_0_0 h_a) (e_getr dX8_fillSlot_40 flX8_38 (kd8_1 h_a) rfl (rf8_1_1 h_a) (e_geti dX8_fillSlot_43 flX8_42 (kd8_5 h_a) (Or.inl rfl) (e_iret dX8_fillSlot_46)))))
  · exact ev_ret (e_iconst dX8_fillSlot_9 (k4 rfl) (e_iret dX8_fillSlot_10))
def f_X8_useSlot (a : Nat) (i0 : Int) (R : xN) : Option (Int × xN) :=
  (f_X9_isIn i0 0 1 R).bind (fun v1 =>
  if v1 = true then
  (f_X9_isInSet i0 (R a 2) R).bind (fun v3 =>
  if v3 = true then
  if 0 ≤ i0 ∧ i0 < 2 then
  (f_X0_copyFrom (a + 1) (a + 16 + 14 * (i0).toNat) R).bind (fun v6 =>
  some ((v6 (a + 5) 5), v6))
  else none
  else
  some ((-2), R))
  else
  some ((-1), R))
set_option maxRecDepth 20000 in
set_option maxHeartbeats 4000000 in
theorem c_X8_useSlot {l : Launch} {g : xG} {d : Nat} {A : xA} {R : xN} {a : Nat} (h_a : sh 8 A a) (i0 : Int) : Ev l g (d + 3) mX8_useSlot 0 [xR a, xI i0] [] A R (fun v : Int × xN => some (xI v.1)) (fun v => v.2) (f_X8_useSlot a i0 R) := by
  rw [f_X8_useSlot]
  refine ev_st (pc' := 3) (L' := [xR a, xI i0]) (st' := [xI 1, xI 0, xI i0]) (fun _ _ _ k => e_iload_n dX8_useSlot_0 rfl (i := 1) (x := i0) rfl (e_iconst dX8_useSlot_1 (k4 rfl) (e_iconst dX8_useSlot_2 (k4 rfl) k))) ?_
  refine ev_callN (As := [xI i0, xI 0, xI 1]) (st := []) (fun v1 => [xI (xz v1)]) dX8_useSlot_3 mlX8_34 rfl rfl rfl rfl rfl rfl (c_X9_isIn (d := d + 2) i0 0 1) (fun _ => xz01 _) (fun _ => rfl) (fun v1 => ?_)
  refine ev_br2 (P := v1 = true) (pct := 11) (pcf := 9) (st' := []) (fun _ _ _ kt kf => e_ifnez dX8_useSlot_6 (tgt := 11) rfl kt kf) (fun h2 => ?_) (fun h2 => ?_)
  · refine ev_st (pc' := 16) (L' := [xR a, xI i0]) (st' := [xI (R a 2), xI i0]) (fun _ _ _ k => e_iload_n dX8_useSlot_11 rfl (i := 1) (x := i0) rfl (e_aload_n dX8_useSlot_12 rfl (i := 0) (x := a) rfl (e_geti dX8_useSlot_13 flX8_22 (kd8_0 h_a) (Or.inl rfl) k))) ?_
    refine ev_callN (As := [xI i0, xI (R a 2)]) (st := []) (fun v3 => [xI (xz v3)]) dX8_useSlot_16 mlX8_30 rfl rfl rfl rfl rfl rfl (c_X9_isInSet (d := d + 2) i0 (R a 2)) (fun _ => xz01 _) (fun _ => rfl) (fun v3 => ?_)
    refine ev_br2 (P := v3 = true) (pct := 25) (pcf := 22) (st' := []) (fun _ _ _ kt kf => e_ifnez dX8_useSlot_19 (tgt := 25) rfl kt kf) (fun h4 => ?_) (fun h4 => ?_)
    · refine ev_st (pc' := 34) (L' := [xR a, xI i0]) (st' := [xI i0, xR (a + 15), xR (a + 1)]) (fun _ _ _ k => e_aload_n dX8_useSlot_25 rfl (i := 0) (x := a) rfl (e_getr dX8_useSlot_26 flX8_12 (kd8_0 h_a) rfl (rf8_0_0 h_a) (e_aload_n dX8_useSlot_29 rfl (i := 0) (x := a) rfl (e_getr dX8_useSlot_30 flX8_18 (kd8_0 h_a) rfl (rf8_0_1 h_a) (e_iload_n dX8_useSlot_33 rfl (i := 1) (x := i0) rfl k))))) ?_
      refine ev_chk (fun h5 => ?_)
      refine ev_st (pc' := 35) (L' := [xR a, xI i0]) (st' := [xR (a + 16 + 14 * (i0).toNat), xR (a + 1)]) (fun _ _ _ k => e_aald2 dX8_useSlot_34 (kd8_15 h_a) h5.1 h5.2 (slot_at h_a h5.1 h5.2) k) ?_
      refine ev_callV (As := [xR (a + 16 + 14 * (i0).toNat)]) (st := []) (fun v6 => []) dX8_useSlot_35 mlX8_26 (kd8_1 h_a) rfl rfl rfl rfl rfl rfl (c_X0_copyFrom (d := d) (sb8_1_0 h_a) (slot_sh h_a h5.1 h5.2)) (fun _ => trivial) (fun _ => rfl) (fun v6 => ?_)
      exact ev_ret (e_aload_n dX8_useSlot_38 rfl (i := 0) (x := a) rfl (e_getr dX8_useSlot_39 flX8_12 (kd8_0 h_a) rfl (rf8_0_0 h_a) (e_getr dX8_useSlot_42 flX8_38 (kd8_1 h_a) rfl (rf8_1_1 h_a) (e_geti dX8_useSlot_45 flX8_42 (kd8_5 h_a) (Or.inl rfl) (e_iret dX8_useSlot_48)))))
    · exact ev_ret (e_bipush dX8_useSlot_22 rfl (k4 rfl) (e_iret dX8_useSlot_24))
  · exact ev_ret (e_iconst dX8_useSlot_9 (k4 rfl) (e_iret dX8_useSlot_10))
def f_X9_setSheet (a : Nat) (i0 : Int) (i1 : Int) (R : xN) : Option (Int × xN) :=
  (f_X1_keep (a + 45) (a + 1) R).bind (fun v1 =>
  (f_X0_takeSheet (a + 2) i0 i1 v1).bind (fun v2 =>
  (f_X1_settle (a + 45) v2.1 v2.2).bind (fun v3 =>
  some (v3.1, v3.2))))
set_option maxRecDepth 20000 in
set_option maxHeartbeats 4000000 in
theorem c_X9_setSheet {l : Launch} {g : xG} {d : Nat} {A : xA} {R : xN} {a : Nat} (h_a : sh 9 A a) (i0 : Int) (i1 : Int) : Ev l g (d + 5) mX9_setSheet 0 [xR a, xI i0, xI i1] [] A R (fun v : Int × xN => some (xI v.1)) (fun v => v.2) (f_X9_setSheet a i0 i1 R) := by
  rw [f_X9_setSheet]
  refine ev_st (pc' := 8) (L' := [xR a, xI i0, xI i1]) (st' := [xR (a + 1), xR (a + 45)]) (fun _ _ _ k => e_aload_n dX9_setSheet_0 rfl (i := 0) (x := a) rfl (e_getr dX9_setSheet_1 flX9_19 (kd9_0 h_a) rfl (rf9_0_1 h_a) (e_aload_n dX9_setSheet_4 rfl (i := 0) (x := a) rfl (e_getr dX9_setSheet_5 flX9_10 (kd9_0 h_a) rfl (rf9_0_0 h_a) k)))) ?_
  refine ev_callV (As := [xR (a + 1)]) (st := []) (fun v1 => []) dX9_setSheet_8 mlX9_58 (kd9_45 h_a) rfl rfl rfl rfl rfl rfl (c_X1_keep (d := d) (sb9_45_1 h_a) (sb9_1_8 h_a)) (fun _ => trivial) (fun _ => rfl) (fun v1 => ?_)
  refine ev_st (pc' := 24) (L' := [xR a, xI i0, xI i1]) (st' := [xI i1, xI i0, xR (a + 2), xR (a + 45)]) (fun _ _ _ k => e_aload_n dX9_setSheet_11 rfl (i := 0) (x := a) rfl (e_getr dX9_setSheet_12 flX9_19 (kd9_0 h_a) rfl (rf9_0_1 h_a) (e_aload_n dX9_setSheet_15 rfl (i := 0) (x := a) rfl (e_getr dX9_setSheet_16 flX9_10 (kd9_0 h_a) rfl (rf9_0_0 h_a) (e_getr dX9_setSheet_19 flX9_62 (kd9_1 h_a) rfl (rf9_1_0 h_a) (e_iload_n dX9_setSheet_22 rfl (i := 1) (x := i0) rfl (e_iload_n dX9_setSheet_23 rfl (i := 2) (x := i1) rfl k))))))) ?_
  refine ev_callV (As := [xI i0, xI i1]) (st := [xR (a + 45)]) (fun v2 => [xI v2.1, xR (a + 45)]) dX9_setSheet_24 mlX9_66 (kd9_2 h_a) rfl rfl rfl rfl rfl rfl (c_X0_takeSheet (d := d + 2) (sb9_2_0 h_a) i0 i1) (fun _ => trivial) (fun _ => rfl) (fun v2 => ?_)
  refine ev_callV (As := [xI v2.1]) (st := []) (fun v3 => [xI v3.1]) dX9_setSheet_27 mlX9_72 (kd9_45 h_a) rfl rfl rfl rfl rfl rfl (c_X1_settle (d := d + 2) (sb9_45_1 h_a) v2.1) (fun _ => trivial) (fun _ => rfl) (fun v3 => ?_)
  exact ev_ret (e_iret dX9_setSheet_30)
def f_X9_fold (a : Nat) (i0 : Int) (R : xN) : Option (Int × xN) :=
  (f_X1_keep (a + 45) (a + 1) R).bind (fun v1 =>
  (f_X0_foldOnce (a + 2) i0 v1).bind (fun v2 =>
  (f_X1_settle (a + 45) v2.1 v2.2).bind (fun v3 =>
  some (v3.1, v3.2))))
set_option maxRecDepth 20000 in
set_option maxHeartbeats 4000000 in
theorem c_X9_fold {l : Launch} {g : xG} {d : Nat} {A : xA} {R : xN} {a : Nat} (h_a : sh 9 A a) (i0 : Int) : Ev l g (d + 5) mX9_fold 0 [xR a, xI i0] [] A R (fun v : Int × xN => some (xI v.1)) (fun v => v.2) (f_X9_fold a i0 R) := by
  rw [f_X9_fold]
  refine ev_st (pc' := 8) (L' := [xR a, xI i0]) (st' := [xR (a + 1), xR (a + 45)]) (fun _ _ _ k => e_aload_n dX9_fold_0 rfl (i := 0) (x := a) rfl (e_getr dX9_fold_1 flX9_19 (kd9_0 h_a) rfl (rf9_0_1 h_a) (e_aload_n dX9_fold_4 rfl (i := 0) (x := a) rfl (e_getr dX9_fold_5 flX9_10 (kd9_0 h_a) rfl (rf9_0_0 h_a) k)))) ?_
  refine ev_callV (As := [xR (a + 1)]) (st := []) (fun v1 => []) dX9_fold_8 mlX9_58 (kd9_45 h_a) rfl rfl rfl rfl rfl rfl (c_X1_keep (d := d) (sb9_45_1 h_a) (sb9_1_8 h_a)) (fun _ => trivial) (fun _ => rfl) (fun v1 => ?_)
  refine ev_st (pc' := 23) (L' := [xR a, xI i0]) (st' := [xI i0, xR (a + 2), xR (a + 45)]) (fun _ _ _ k => e_aload_n dX9_fold_11 rfl (i := 0) (x := a) rfl (e_getr dX9_fold_12 flX9_19 (kd9_0 h_a) rfl (rf9_0_1 h_a) (e_aload_n dX9_fold_15 rfl (i := 0) (x := a) rfl (e_getr dX9_fold_16 flX9_10 (kd9_0 h_a) rfl (rf9_0_0 h_a) (e_getr dX9_fold_19 flX9_62 (kd9_1 h_a) rfl (rf9_1_0 h_a) (e_iload_n dX9_fold_22 rfl (i := 1) (x := i0) rfl k)))))) ?_
  refine ev_callV (As := [xI i0]) (st := [xR (a + 45)]) (fun v2 => [xI v2.1, xR (a + 45)]) dX9_fold_23 mlX9_76 (kd9_2 h_a) rfl rfl rfl rfl rfl rfl (c_X0_foldOnce (d := d + 1) (sb9_2_0 h_a) i0) (fun _ => trivial) (fun _ => rfl) (fun v2 => ?_)
  refine ev_callV (As := [xI v2.1]) (st := []) (fun v3 => [xI v3.1]) dX9_fold_26 mlX9_72 (kd9_45 h_a) rfl rfl rfl rfl rfl rfl (c_X1_settle (d := d + 2) (sb9_45_1 h_a) v2.1) (fun _ => trivial) (fun _ => rfl) (fun v3 => ?_)
  exact ev_ret (e_iret dX9_fold_29)
def f_X9_unfold (a : Nat) (R : xN) : Option (Int × xN) :=
  (f_X1_keep (a + 45) (a + 1) R).bind (fun v1 =>
  (f_X0_foldBack (a + 2) v1).bind (fun v2 =>
  (f_X1_settle (a + 45) v2.1 v2.2).bind (fun v3 =>
  some (v3.1, v3.2))))
set_option maxRecDepth 20000 in
set_option maxHeartbeats 4000000 in
theorem c_X9_unfold {l : Launch} {g : xG} {d : Nat} {A : xA} {R : xN} {a : Nat} (h_a : sh 9 A a)  : Ev l g (d + 5) mX9_unfold 0 [xR a] [] A R (fun v : Int × xN => some (xI v.1)) (fun v => v.2) (f_X9_unfold a R) := by
  rw [f_X9_unfold]
  refine ev_st (pc' := 8) (L' := [xR a]) (st' := [xR (a + 1), xR (a + 45)]) (fun _ _ _ k => e_aload_n dX9_unfold_0 rfl (i := 0) (x := a) rfl (e_getr dX9_unfold_1 flX9_19 (kd9_0 h_a) rfl (rf9_0_1 h_a) (e_aload_n dX9_unfold_4 rfl (i := 0) (x := a) rfl (e_getr dX9_unfold_5 flX9_10 (kd9_0 h_a) rfl (rf9_0_0 h_a) k)))) ?_
  refine ev_callV (As := [xR (a + 1)]) (st := []) (fun v1 => []) dX9_unfold_8 mlX9_58 (kd9_45 h_a) rfl rfl rfl rfl rfl rfl (c_X1_keep (d := d) (sb9_45_1 h_a) (sb9_1_8 h_a)) (fun _ => trivial) (fun _ => rfl) (fun v1 => ?_)
  refine ev_st (pc' := 22) (L' := [xR a]) (st' := [xR (a + 2), xR (a + 45)]) (fun _ _ _ k => e_aload_n dX9_unfold_11 rfl (i := 0) (x := a) rfl (e_getr dX9_unfold_12 flX9_19 (kd9_0 h_a) rfl (rf9_0_1 h_a) (e_aload_n dX9_unfold_15 rfl (i := 0) (x := a) rfl (e_getr dX9_unfold_16 flX9_10 (kd9_0 h_a) rfl (rf9_0_0 h_a) (e_getr dX9_unfold_19 flX9_62 (kd9_1 h_a) rfl (rf9_1_0 h_a) k))))) ?_
  refine ev_callV (As := []) (st := [xR (a + 45)]) (fun v2 => [xI v2.1, xR (a + 45)]) dX9_unfold_22 mlX9_79 (kd9_2 h_a) rfl rfl rfl rfl rfl rfl (c_X0_foldBack (d := d) (sb9_2_0 h_a)) (fun _ => trivial) (fun _ => rfl) (fun v2 => ?_)
  refine ev_callV (As := [xI v2.1]) (st := []) (fun v3 => [xI v3.1]) dX9_unfold_25 mlX9_72 (kd9_45 h_a) rfl rfl rfl rfl rfl rfl (c_X1_settle (d := d + 2) (sb9_45_1 h_a) v2.1) (fun _ => trivial) (fun _ => rfl) (fun v3 => ?_)
  exact ev_ret (e_iret dX9_unfold_28)
def f_X9_setSpine (a : Nat) (i0 : Int) (R : xN) : Option (Int × xN) :=
  (f_X1_keep (a + 45) (a + 1) R).bind (fun v1 =>
  (f_X0_moveSpine (a + 2) i0 v1).bind (fun v2 =>
  (f_X1_settle (a + 45) v2.1 v2.2).bind (fun v3 =>
  some (v3.1, v3.2))))
set_option maxRecDepth 20000 in
set_option maxHeartbeats 4000000 in
theorem c_X9_setSpine {l : Launch} {g : xG} {d : Nat} {A : xA} {R : xN} {a : Nat} (h_a : sh 9 A a) (i0 : Int) : Ev l g (d + 5) mX9_setSpine 0 [xR a, xI i0] [] A R (fun v : Int × xN => some (xI v.1)) (fun v => v.2) (f_X9_setSpine a i0 R) := by
  rw [f_X9_setSpine]
  refine ev_st (pc' := 8) (L' := [xR a, xI i0]) (st' := [xR (a + 1), xR (a + 45)]) (fun _ _ _ k => e_aload_n dX9_setSpine_0 rfl (i := 0) (x := a) rfl (e_getr dX9_setSpine_1 flX9_19 (kd9_0 h_a) rfl (rf9_0_1 h_a) (e_aload_n dX9_setSpine_4 rfl (i := 0) (x := a) rfl (e_getr dX9_setSpine_5 flX9_10 (kd9_0 h_a) rfl (rf9_0_0 h_a) k)))) ?_
  refine ev_callV (As := [xR (a + 1)]) (st := []) (fun v1 => []) dX9_setSpine_8 mlX9_58 (kd9_45 h_a) rfl rfl rfl rfl rfl rfl (c_X1_keep (d := d) (sb9_45_1 h_a) (sb9_1_8 h_a)) (fun _ => trivial) (fun _ => rfl) (fun v1 => ?_)
  refine ev_st (pc' := 23) (L' := [xR a, xI i0]) (st' := [xI i0, xR (a + 2), xR (a + 45)]) (fun _ _ _ k => e_aload_n dX9_setSpine_11 rfl (i := 0) (x := a) rfl (e_getr dX9_setSpine_12 flX9_19 (kd9_0 h_a) rfl (rf9_0_1 h_a) (e_aload_n dX9_setSpine_15 rfl (i := 0) (x := a) rfl (e_getr dX9_setSpine_16 flX9_10 (kd9_0 h_a) rfl (rf9_0_0 h_a) (e_getr dX9_setSpine_19 flX9_62 (kd9_1 h_a) rfl (rf9_1_0 h_a) (e_iload_n dX9_setSpine_22 rfl (i := 1) (x := i0) rfl k)))))) ?_
  refine ev_callV (As := [xI i0]) (st := [xR (a + 45)]) (fun v2 => [xI v2.1, xR (a + 45)]) dX9_setSpine_23 mlX9_83 (kd9_2 h_a) rfl rfl rfl rfl rfl rfl (c_X0_moveSpine (d := d + 3) (sb9_2_0 h_a) i0) (fun _ => trivial) (fun _ => rfl) (fun v2 => ?_)
  refine ev_callV (As := [xI v2.1]) (st := []) (fun v3 => [xI v3.1]) dX9_setSpine_26 mlX9_72 (kd9_45 h_a) rfl rfl rfl rfl rfl rfl (c_X1_settle (d := d + 2) (sb9_45_1 h_a) v2.1) (fun _ => trivial) (fun _ => rfl) (fun v3 => ?_)
  exact ev_ret (e_iret dX9_setSpine_29)
def f_X9_print (a : Nat) (i0 : Int) (i1 : Int) (i2 : Int) (i3 : Int) (i4 : Int) (R : xN) : Option (Int × xN) :=
  (f_X1_keep (a + 45) (a + 1) R).bind (fun v1 =>
  (f_X0_printSide (a + 2) i0 i1 i2 i3 i4 v1).bind (fun v2 =>
  (f_X1_settle (a + 45) v2.1 v2.2).bind (fun v3 =>
  some (v3.1, v3.2))))
set_option maxRecDepth 20000 in
set_option maxHeartbeats 4000000 in
theorem c_X9_print {l : Launch} {g : xG} {d : Nat} {A : xA} {R : xN} {a : Nat} (h_a : sh 9 A a) (i0 : Int) (i1 : Int) (i2 : Int) (i3 : Int) (i4 : Int) : Ev l g (d + 5) mX9_print 0 [xR a, xI i0, xI i1, xI i2, xI i3, xI i4] [] A R (fun v : Int × xN => some (xI v.1)) (fun v => v.2) (f_X9_print a i0 i1 i2 i3 i4 R) := by
  rw [f_X9_print]
  refine ev_st (pc' := 8) (L' := [xR a, xI i0, xI i1, xI i2, xI i3, xI i4]) (st' := [xR (a + 1), xR (a + 45)]) (fun _ _ _ k => e_aload_n dX9_print_0 rfl (i := 0) (x := a) rfl (e_getr dX9_print_1 flX9_19 (kd9_0 h_a) rfl (rf9_0_1 h_a) (e_aload_n dX9_print_4 rfl (i := 0) (x := a) rfl (e_getr dX9_print_5 flX9_10 (kd9_0 h_a) rfl (rf9_0_0 h_a) k)))) ?_
  refine ev_callV (As := [xR (a + 1)]) (st := []) (fun v1 => []) dX9_print_8 mlX9_58 (kd9_45 h_a) rfl rfl rfl rfl rfl rfl (c_X1_keep (d := d) (sb9_45_1 h_a) (sb9_1_8 h_a)) (fun _ => trivial) (fun _ => rfl) (fun v1 => ?_)
  refine ev_st (pc' := 29) (L' := [xR a, xI i0, xI i1, xI i2, xI i3, xI i4]) (st' := [xI i4, xI i3, xI i2, xI i1, xI i0, xR (a + 2), xR (a + 45)]) (fun _ _ _ k => e_aload_n dX9_print_11 rfl (i := 0) (x := a) rfl (e_getr dX9_print_12 flX9_19 (kd9_0 h_a) rfl (rf9_0_1 h_a) (e_aload_n dX9_print_15 rfl (i := 0) (x := a) rfl (e_getr dX9_print_16 flX9_10 (kd9_0 h_a) rfl (rf9_0_0 h_a) (e_getr dX9_print_19 flX9_62 (kd9_1 h_a) rfl (rf9_1_0 h_a) (e_iload_n dX9_print_22 rfl (i := 1) (x := i0) rfl (e_iload_n dX9_print_23 rfl (i := 2) (x := i1) rfl (e_iload_n dX9_print_24 rfl (i := 3) (x := i2) rfl (e_iload dX9_print_25 (i := 4) (x := i3) rfl (e_iload dX9_print_27 (i := 5) (x := i4) rfl k)))))))))) ?_
  refine ev_callV (As := [xI i0, xI i1, xI i2, xI i3, xI i4]) (st := [xR (a + 45)]) (fun v2 => [xI v2.1, xR (a + 45)]) dX9_print_29 mlX9_86 (kd9_2 h_a) rfl rfl rfl rfl rfl rfl (c_X0_printSide (d := d + 2) (sb9_2_0 h_a) i0 i1 i2 i3 i4) (fun _ => trivial) (fun _ => rfl) (fun v2 => ?_)
  refine ev_callV (As := [xI v2.1]) (st := []) (fun v3 => [xI v3.1]) dX9_print_32 mlX9_72 (kd9_45 h_a) rfl rfl rfl rfl rfl rfl (c_X1_settle (d := d + 2) (sb9_45_1 h_a) v2.1) (fun _ => trivial) (fun _ => rfl) (fun v3 => ?_)
  exact ev_ret (e_iret dX9_print_35)
def f_X9_printAll (a : Nat) (i0 : Int) (R : xN) : Option (Int × xN) :=
  (f_X1_keep (a + 45) (a + 1) R).bind (fun v1 =>
  (f_X0_printSheet (a + 2) (a + 311) i0 v1).bind (fun v2 =>
  (f_X1_settle (a + 45) v2.1 v2.2).bind (fun v3 =>
  some (v3.1, v3.2))))
set_option maxRecDepth 20000 in
set_option maxHeartbeats 4000000 in
theorem c_X9_printAll {l : Launch} {g : xG} {d : Nat} {A : xA} {R : xN} {a : Nat} (h_a : sh 9 A a) (i0 : Int) : Ev l g (d + 5) mX9_printAll 0 [xR a, xI i0] [] A R (fun v : Int × xN => some (xI v.1)) (fun v => v.2) (f_X9_printAll a i0 R) := by
  rw [f_X9_printAll]
  refine ev_st (pc' := 8) (L' := [xR a, xI i0]) (st' := [xR (a + 1), xR (a + 45)]) (fun _ _ _ k => e_aload_n dX9_printAll_0 rfl (i := 0) (x := a) rfl (e_getr dX9_printAll_1 flX9_19 (kd9_0 h_a) rfl (rf9_0_1 h_a) (e_aload_n dX9_printAll_4 rfl (i := 0) (x := a) rfl (e_getr dX9_printAll_5 flX9_10 (kd9_0 h_a) rfl (rf9_0_0 h_a) k)))) ?_
  refine ev_callV (As := [xR (a + 1)]) (st := []) (fun v1 => []) dX9_printAll_8 mlX9_58 (kd9_45 h_a) rfl rfl rfl rfl rfl rfl (c_X1_keep (d := d) (sb9_45_1 h_a) (sb9_1_8 h_a)) (fun _ => trivial) (fun _ => rfl) (fun v1 => ?_)
  refine ev_st (pc' := 27) (L' := [xR a, xI i0]) (st' := [xI i0, xR (a + 311), xR (a + 2), xR (a + 45)]) (fun _ _ _ k => e_aload_n dX9_printAll_11 rfl (i := 0) (x := a) rfl (e_getr dX9_printAll_12 flX9_19 (kd9_0 h_a) rfl (rf9_0_1 h_a) (e_aload_n dX9_printAll_15 rfl (i := 0) (x := a) rfl (e_getr dX9_printAll_16 flX9_10 (kd9_0 h_a) rfl (rf9_0_0 h_a) (e_getr dX9_printAll_19 flX9_62 (kd9_1 h_a) rfl (rf9_1_0 h_a) (e_aload_n dX9_printAll_22 rfl (i := 0) (x := a) rfl (e_getr dX9_printAll_23 flX9_26 (kd9_0 h_a) rfl (rf9_0_2 h_a) (e_iload_n dX9_printAll_26 rfl (i := 1) (x := i0) rfl k)))))))) ?_
  refine ev_callV (As := [xR (a + 311), xI i0]) (st := [xR (a + 45)]) (fun v2 => [xI v2.1, xR (a + 45)]) dX9_printAll_27 mlX9_90 (kd9_2 h_a) rfl rfl rfl rfl rfl rfl (c_X0_printSheet (d := d) (sb9_2_0 h_a) (sb9_311_3 h_a) i0) (fun _ => trivial) (fun _ => rfl) (fun v2 => ?_)
  refine ev_callV (As := [xI v2.1]) (st := []) (fun v3 => [xI v3.1]) dX9_printAll_30 mlX9_72 (kd9_45 h_a) rfl rfl rfl rfl rfl rfl (c_X1_settle (d := d + 2) (sb9_45_1 h_a) v2.1) (fun _ => trivial) (fun _ => rfl) (fun v3 => ?_)
  exact ev_ret (e_iret dX9_printAll_33)
def f_X9_cut (a : Nat) (i0 : Int) (R : xN) : Option (Int × xN) :=
  (f_X1_keep (a + 45) (a + 1) R).bind (fun v1 =>
  (f_X0_cutAlong (a + 2) i0 v1).bind (fun v2 =>
  (f_X1_settle (a + 45) v2.1 v2.2).bind (fun v3 =>
  some (v3.1, v3.2))))
set_option maxRecDepth 20000 in
set_option maxHeartbeats 4000000 in
theorem c_X9_cut {l : Launch} {g : xG} {d : Nat} {A : xA} {R : xN} {a : Nat} (h_a : sh 9 A a) (i0 : Int) : Ev l g (d + 5) mX9_cut 0 [xR a, xI i0] [] A R (fun v : Int × xN => some (xI v.1)) (fun v => v.2) (f_X9_cut a i0 R) := by
  rw [f_X9_cut]
  refine ev_st (pc' := 8) (L' := [xR a, xI i0]) (st' := [xR (a + 1), xR (a + 45)]) (fun _ _ _ k => e_aload_n dX9_cut_0 rfl (i := 0) (x := a) rfl (e_getr dX9_cut_1 flX9_19 (kd9_0 h_a) rfl (rf9_0_1 h_a) (e_aload_n dX9_cut_4 rfl (i := 0) (x := a) rfl (e_getr dX9_cut_5 flX9_10 (kd9_0 h_a) rfl (rf9_0_0 h_a) k)))) ?_
  refine ev_callV (As := [xR (a + 1)]) (st := []) (fun v1 => []) dX9_cut_8 mlX9_58 (kd9_45 h_a) rfl rfl rfl rfl rfl rfl (c_X1_keep (d := d) (sb9_45_1 h_a) (sb9_1_8 h_a)) (fun _ => trivial) (fun _ => rfl) (fun v1 => ?_)
  refine ev_st (pc' := 23) (L' := [xR a, xI i0]) (st' := [xI i0, xR (a + 2), xR (a + 45)]) (fun _ _ _ k => e_aload_n dX9_cut_11 rfl (i := 0) (x := a) rfl (e_getr dX9_cut_12 flX9_19 (kd9_0 h_a) rfl (rf9_0_1 h_a) (e_aload_n dX9_cut_15 rfl (i := 0) (x := a) rfl (e_getr dX9_cut_16 flX9_10 (kd9_0 h_a) rfl (rf9_0_0 h_a) (e_getr dX9_cut_19 flX9_62 (kd9_1 h_a) rfl (rf9_1_0 h_a) (e_iload_n dX9_cut_22 rfl (i := 1) (x := i0) rfl k)))))) ?_
  refine ev_callV (As := [xI i0]) (st := [xR (a + 45)]) (fun v2 => [xI v2.1, xR (a + 45)]) dX9_cut_23 mlX9_94 (kd9_2 h_a) rfl rfl rfl rfl rfl rfl (c_X0_cutAlong (d := d + 1) (sb9_2_0 h_a) i0) (fun _ => trivial) (fun _ => rfl) (fun v2 => ?_)
  refine ev_callV (As := [xI v2.1]) (st := []) (fun v3 => [xI v3.1]) dX9_cut_26 mlX9_72 (kd9_45 h_a) rfl rfl rfl rfl rfl rfl (c_X1_settle (d := d + 2) (sb9_45_1 h_a) v2.1) (fun _ => trivial) (fun _ => rfl) (fun v3 => ?_)
  exact ev_ret (e_iret dX9_cut_29)
def f_X9_staple (a : Nat) (i0 : Int) (R : xN) : Option (Int × xN) :=
  (f_X1_keep (a + 45) (a + 1) R).bind (fun v1 =>
  (f_X0_setStaple (a + 2) i0 v1).bind (fun v2 =>
  (f_X1_settle (a + 45) v2.1 v2.2).bind (fun v3 =>
  some (v3.1, v3.2))))
set_option maxRecDepth 20000 in
set_option maxHeartbeats 4000000 in
theorem c_X9_staple {l : Launch} {g : xG} {d : Nat} {A : xA} {R : xN} {a : Nat} (h_a : sh 9 A a) (i0 : Int) : Ev l g (d + 5) mX9_staple 0 [xR a, xI i0] [] A R (fun v : Int × xN => some (xI v.1)) (fun v => v.2) (f_X9_staple a i0 R) := by
  rw [f_X9_staple]
  refine ev_st (pc' := 8) (L' := [xR a, xI i0]) (st' := [xR (a + 1), xR (a + 45)]) (fun _ _ _ k => e_aload_n dX9_staple_0 rfl (i := 0) (x := a) rfl (e_getr dX9_staple_1 flX9_19 (kd9_0 h_a) rfl (rf9_0_1 h_a) (e_aload_n dX9_staple_4 rfl (i := 0) (x := a) rfl (e_getr dX9_staple_5 flX9_10 (kd9_0 h_a) rfl (rf9_0_0 h_a) k)))) ?_
  refine ev_callV (As := [xR (a + 1)]) (st := []) (fun v1 => []) dX9_staple_8 mlX9_58 (kd9_45 h_a) rfl rfl rfl rfl rfl rfl (c_X1_keep (d := d) (sb9_45_1 h_a) (sb9_1_8 h_a)) (fun _ => trivial) (fun _ => rfl) (fun v1 => ?_)
  refine ev_st (pc' := 23) (L' := [xR a, xI i0]) (st' := [xI i0, xR (a + 2), xR (a + 45)]) (fun _ _ _ k => e_aload_n dX9_staple_11 rfl (i := 0) (x := a) rfl (e_getr dX9_staple_12 flX9_19 (kd9_0 h_a) rfl (rf9_0_1 h_a) (e_aload_n dX9_staple_15 rfl (i := 0) (x := a) rfl (e_getr dX9_staple_16 flX9_10 (kd9_0 h_a) rfl (rf9_0_0 h_a) (e_getr dX9_staple_19 flX9_62 (kd9_1 h_a) rfl (rf9_1_0 h_a) (e_iload_n dX9_staple_22 rfl (i := 1) (x := i0) rfl k)))))) ?_
  refine ev_callV (As := [xI i0]) (st := [xR (a + 45)]) (fun v2 => [xI v2.1, xR (a + 45)]) dX9_staple_23 mlX9_97 (kd9_2 h_a) rfl rfl rfl rfl rfl rfl (c_X0_setStaple (d := d + 3) (sb9_2_0 h_a) i0) (fun _ => trivial) (fun _ => rfl) (fun v2 => ?_)
  refine ev_callV (As := [xI v2.1]) (st := []) (fun v3 => [xI v3.1]) dX9_staple_26 mlX9_72 (kd9_45 h_a) rfl rfl rfl rfl rfl rfl (c_X1_settle (d := d + 2) (sb9_45_1 h_a) v2.1) (fun _ => trivial) (fun _ => rfl) (fun v3 => ?_)
  exact ev_ret (e_iret dX9_staple_29)
def f_X9_unstaple (a : Nat) (i0 : Int) (R : xN) : Option (Int × xN) :=
  (f_X1_keep (a + 45) (a + 1) R).bind (fun v1 =>
  (f_X0_drawStaple (a + 2) i0 v1).bind (fun v2 =>
  (f_X1_settle (a + 45) v2.1 v2.2).bind (fun v3 =>
  some (v3.1, v3.2))))
set_option maxRecDepth 20000 in
set_option maxHeartbeats 4000000 in
theorem c_X9_unstaple {l : Launch} {g : xG} {d : Nat} {A : xA} {R : xN} {a : Nat} (h_a : sh 9 A a) (i0 : Int) : Ev l g (d + 5) mX9_unstaple 0 [xR a, xI i0] [] A R (fun v : Int × xN => some (xI v.1)) (fun v => v.2) (f_X9_unstaple a i0 R) := by
  rw [f_X9_unstaple]
  refine ev_st (pc' := 8) (L' := [xR a, xI i0]) (st' := [xR (a + 1), xR (a + 45)]) (fun _ _ _ k => e_aload_n dX9_unstaple_0 rfl (i := 0) (x := a) rfl (e_getr dX9_unstaple_1 flX9_19 (kd9_0 h_a) rfl (rf9_0_1 h_a) (e_aload_n dX9_unstaple_4 rfl (i := 0) (x := a) rfl (e_getr dX9_unstaple_5 flX9_10 (kd9_0 h_a) rfl (rf9_0_0 h_a) k)))) ?_
  refine ev_callV (As := [xR (a + 1)]) (st := []) (fun v1 => []) dX9_unstaple_8 mlX9_58 (kd9_45 h_a) rfl rfl rfl rfl rfl rfl (c_X1_keep (d := d) (sb9_45_1 h_a) (sb9_1_8 h_a)) (fun _ => trivial) (fun _ => rfl) (fun v1 => ?_)
  refine ev_st (pc' := 23) (L' := [xR a, xI i0]) (st' := [xI i0, xR (a + 2), xR (a + 45)]) (fun _ _ _ k => e_aload_n dX9_unstaple_11 rfl (i := 0) (x := a) rfl (e_getr dX9_unstaple_12 flX9_19 (kd9_0 h_a) rfl (rf9_0_1 h_a) (e_aload_n dX9_unstaple_15 rfl (i := 0) (x := a) rfl (e_getr dX9_unstaple_16 flX9_10 (kd9_0 h_a) rfl (rf9_0_0 h_a) (e_getr dX9_unstaple_19 flX9_62 (kd9_1 h_a) rfl (rf9_1_0 h_a) (e_iload_n dX9_unstaple_22 rfl (i := 1) (x := i0) rfl k)))))) ?_
  refine ev_callV (As := [xI i0]) (st := [xR (a + 45)]) (fun v2 => [xI v2.1, xR (a + 45)]) dX9_unstaple_23 mlX9_100 (kd9_2 h_a) rfl rfl rfl rfl rfl rfl (c_X0_drawStaple (d := d + 3) (sb9_2_0 h_a) i0) (fun _ => trivial) (fun _ => rfl) (fun v2 => ?_)
  refine ev_callV (As := [xI v2.1]) (st := []) (fun v3 => [xI v3.1]) dX9_unstaple_26 mlX9_72 (kd9_45 h_a) rfl rfl rfl rfl rfl rfl (c_X1_settle (d := d + 2) (sb9_45_1 h_a) v2.1) (fun _ => trivial) (fun _ => rfl) (fun v3 => ?_)
  exact ev_ret (e_iret dX9_unstaple_29)
def f_X9_setLegs (a : Nat) (i0 : Int) (R : xN) : Option (Int × xN) :=
  (f_X1_keep (a + 45) (a + 1) R).bind (fun v1 =>
  (f_X0_changeLegs (a + 2) i0 v1).bind (fun v2 =>
  (f_X1_settle (a + 45) v2.1 v2.2).bind (fun v3 =>
  some (v3.1, v3.2))))
set_option maxRecDepth 20000 in
set_option maxHeartbeats 4000000 in
theorem c_X9_setLegs {l : Launch} {g : xG} {d : Nat} {A : xA} {R : xN} {a : Nat} (h_a : sh 9 A a) (i0 : Int) : Ev l g (d + 5) mX9_setLegs 0 [xR a, xI i0] [] A R (fun v : Int × xN => some (xI v.1)) (fun v => v.2) (f_X9_setLegs a i0 R) := by
  rw [f_X9_setLegs]
  refine ev_st (pc' := 8) (L' := [xR a, xI i0]) (st' := [xR (a + 1), xR (a + 45)]) (fun _ _ _ k => e_aload_n dX9_setLegs_0 rfl (i := 0) (x := a) rfl (e_getr dX9_setLegs_1 flX9_19 (kd9_0 h_a) rfl (rf9_0_1 h_a) (e_aload_n dX9_setLegs_4 rfl (i := 0) (x := a) rfl (e_getr dX9_setLegs_5 flX9_10 (kd9_0 h_a) rfl (rf9_0_0 h_a) k)))) ?_
  refine ev_callV (As := [xR (a + 1)]) (st := []) (fun v1 => []) dX9_setLegs_8 mlX9_58 (kd9_45 h_a) rfl rfl rfl rfl rfl rfl (c_X1_keep (d := d) (sb9_45_1 h_a) (sb9_1_8 h_a)) (fun _ => trivial) (fun _ => rfl) (fun v1 => ?_)
  refine ev_st (pc' := 23) (L' := [xR a, xI i0]) (st' := [xI i0, xR (a + 2), xR (a + 45)]) (fun _ _ _ k => e_aload_n dX9_setLegs_11 rfl (i := 0) (x := a) rfl (e_getr dX9_setLegs_12 flX9_19 (kd9_0 h_a) rfl (rf9_0_1 h_a) (e_aload_n dX9_setLegs_15 rfl (i := 0) (x := a) rfl (e_getr dX9_setLegs_16 flX9_10 (kd9_0 h_a) rfl (rf9_0_0 h_a) (e_getr dX9_setLegs_19 flX9_62 (kd9_1 h_a) rfl (rf9_1_0 h_a) (e_iload_n dX9_setLegs_22 rfl (i := 1) (x := i0) rfl k)))))) ?_
  refine ev_callV (As := [xI i0]) (st := [xR (a + 45)]) (fun v2 => [xI v2.1, xR (a + 45)]) dX9_setLegs_23 mlX9_103 (kd9_2 h_a) rfl rfl rfl rfl rfl rfl (c_X0_changeLegs (d := d + 3) (sb9_2_0 h_a) i0) (fun _ => trivial) (fun _ => rfl) (fun v2 => ?_)
  refine ev_callV (As := [xI v2.1]) (st := []) (fun v3 => [xI v3.1]) dX9_setLegs_26 mlX9_72 (kd9_45 h_a) rfl rfl rfl rfl rfl rfl (c_X1_settle (d := d + 2) (sb9_45_1 h_a) v2.1) (fun _ => trivial) (fun _ => rfl) (fun v3 => ?_)
  exact ev_ret (e_iret dX9_setLegs_29)
def f_X9_see (a : Nat) (i0 : Int) (i1 : Int) (i2 : Int) (R : xN) : Option (Int × xN) :=
  (f_X1_keep (a + 45) (a + 1) R).bind (fun v1 =>
  (f_X0_keepSight (a + 2) i0 i1 i2 v1).bind (fun v2 =>
  (f_X1_settle (a + 45) v2.1 v2.2).bind (fun v3 =>
  some (v3.1, v3.2))))
set_option maxRecDepth 20000 in
set_option maxHeartbeats 4000000 in
theorem c_X9_see {l : Launch} {g : xG} {d : Nat} {A : xA} {R : xN} {a : Nat} (h_a : sh 9 A a) (i0 : Int) (i1 : Int) (i2 : Int) : Ev l g (d + 5) mX9_see 0 [xR a, xI i0, xI i1, xI i2] [] A R (fun v : Int × xN => some (xI v.1)) (fun v => v.2) (f_X9_see a i0 i1 i2 R) := by
  rw [f_X9_see]
  refine ev_st (pc' := 8) (L' := [xR a, xI i0, xI i1, xI i2]) (st' := [xR (a + 1), xR (a + 45)]) (fun _ _ _ k => e_aload_n dX9_see_0 rfl (i := 0) (x := a) rfl (e_getr dX9_see_1 flX9_19 (kd9_0 h_a) rfl (rf9_0_1 h_a) (e_aload_n dX9_see_4 rfl (i := 0) (x := a) rfl (e_getr dX9_see_5 flX9_10 (kd9_0 h_a) rfl (rf9_0_0 h_a) k)))) ?_
  refine ev_callV (As := [xR (a + 1)]) (st := []) (fun v1 => []) dX9_see_8 mlX9_58 (kd9_45 h_a) rfl rfl rfl rfl rfl rfl (c_X1_keep (d := d) (sb9_45_1 h_a) (sb9_1_8 h_a)) (fun _ => trivial) (fun _ => rfl) (fun v1 => ?_)
  refine ev_st (pc' := 25) (L' := [xR a, xI i0, xI i1, xI i2]) (st' := [xI i2, xI i1, xI i0, xR (a + 2), xR (a + 45)]) (fun _ _ _ k => e_aload_n dX9_see_11 rfl (i := 0) (x := a) rfl (e_getr dX9_see_12 flX9_19 (kd9_0 h_a) rfl (rf9_0_1 h_a) (e_aload_n dX9_see_15 rfl (i := 0) (x := a) rfl (e_getr dX9_see_16 flX9_10 (kd9_0 h_a) rfl (rf9_0_0 h_a) (e_getr dX9_see_19 flX9_62 (kd9_1 h_a) rfl (rf9_1_0 h_a) (e_iload_n dX9_see_22 rfl (i := 1) (x := i0) rfl (e_iload_n dX9_see_23 rfl (i := 2) (x := i1) rfl (e_iload_n dX9_see_24 rfl (i := 3) (x := i2) rfl k)))))))) ?_
  refine ev_callV (As := [xI i0, xI i1, xI i2]) (st := [xR (a + 45)]) (fun v2 => [xI v2.1, xR (a + 45)]) dX9_see_25 mlX9_106 (kd9_2 h_a) rfl rfl rfl rfl rfl rfl (c_X0_keepSight (d := d + 2) (sb9_2_0 h_a) i0 i1 i2) (fun _ => trivial) (fun _ => rfl) (fun v2 => ?_)
  refine ev_callV (As := [xI v2.1]) (st := []) (fun v3 => [xI v3.1]) dX9_see_28 mlX9_72 (kd9_45 h_a) rfl rfl rfl rfl rfl rfl (c_X1_settle (d := d + 2) (sb9_45_1 h_a) v2.1) (fun _ => trivial) (fun _ => rfl) (fun v3 => ?_)
  exact ev_ret (e_iret dX9_see_31)
def f_X9_forget (a : Nat) (R : xN) : Option (Int × xN) :=
  (f_X1_keep (a + 45) (a + 1) R).bind (fun v1 =>
  (f_X7_dropAll (a + 9) v1).bind (fun v2 =>
  (f_X1_settle (a + 45) v2.1 v2.2).bind (fun v3 =>
  some (v3.1, v3.2))))
set_option maxRecDepth 20000 in
set_option maxHeartbeats 4000000 in
theorem c_X9_forget {l : Launch} {g : xG} {d : Nat} {A : xA} {R : xN} {a : Nat} (h_a : sh 9 A a)  : Ev l g (d + 5) mX9_forget 0 [xR a] [] A R (fun v : Int × xN => some (xI v.1)) (fun v => v.2) (f_X9_forget a R) := by
  rw [f_X9_forget]
  refine ev_st (pc' := 8) (L' := [xR a]) (st' := [xR (a + 1), xR (a + 45)]) (fun _ _ _ k => e_aload_n dX9_forget_0 rfl (i := 0) (x := a) rfl (e_getr dX9_forget_1 flX9_19 (kd9_0 h_a) rfl (rf9_0_1 h_a) (e_aload_n dX9_forget_4 rfl (i := 0) (x := a) rfl (e_getr dX9_forget_5 flX9_10 (kd9_0 h_a) rfl (rf9_0_0 h_a) k)))) ?_
  refine ev_callV (As := [xR (a + 1)]) (st := []) (fun v1 => []) dX9_forget_8 mlX9_58 (kd9_45 h_a) rfl rfl rfl rfl rfl rfl (c_X1_keep (d := d) (sb9_45_1 h_a) (sb9_1_8 h_a)) (fun _ => trivial) (fun _ => rfl) (fun v1 => ?_)
  refine ev_st (pc' := 25) (L' := [xR a]) (st' := [xR (a + 9), xR (a + 45)]) (fun _ _ _ k => e_aload_n dX9_forget_11 rfl (i := 0) (x := a) rfl (e_getr dX9_forget_12 flX9_19 (kd9_0 h_a) rfl (rf9_0_1 h_a) (e_aload_n dX9_forget_15 rfl (i := 0) (x := a) rfl (e_getr dX9_forget_16 flX9_10 (kd9_0 h_a) rfl (rf9_0_0 h_a) (e_getr dX9_forget_19 flX9_62 (kd9_1 h_a) rfl (rf9_1_0 h_a) (e_getr dX9_forget_22 flX9_110 (kd9_2 h_a) rfl (rf9_2_2 h_a) k)))))) ?_
  refine ev_callV (As := []) (st := [xR (a + 45)]) (fun v2 => [xI v2.1, xR (a + 45)]) dX9_forget_25 mlX9_114 (kd9_9 h_a) rfl rfl rfl rfl rfl rfl (c_X7_dropAll (d := d + 4) (sb9_9_7 h_a)) (fun _ => trivial) (fun _ => rfl) (fun v2 => ?_)
  refine ev_callV (As := [xI v2.1]) (st := []) (fun v3 => [xI v3.1]) dX9_forget_28 mlX9_72 (kd9_45 h_a) rfl rfl rfl rfl rfl rfl (c_X1_settle (d := d + 2) (sb9_45_1 h_a) v2.1) (fun _ => trivial) (fun _ => rfl) (fun v3 => ?_)
  exact ev_ret (e_iret dX9_forget_31)
def f_X9_addNote (a : Nat) (i0 : Int) (i1 : Int) (i2 : Int) (i3 : Int) (R : xN) : Option (Int × xN) :=
  (f_X1_keep (a + 45) (a + 1) R).bind (fun v1 =>
  (f_X4_put (a + 13) i0 i1 i2 i3 v1).bind (fun v2 =>
  (f_X1_settle (a + 45) v2.1 v2.2).bind (fun v3 =>
  some (v3.1, v3.2))))
set_option maxRecDepth 20000 in
set_option maxHeartbeats 4000000 in
theorem c_X9_addNote {l : Launch} {g : xG} {d : Nat} {A : xA} {R : xN} {a : Nat} (h_a : sh 9 A a) (i0 : Int) (i1 : Int) (i2 : Int) (i3 : Int) : Ev l g (d + 5) mX9_addNote 0 [xR a, xI i0, xI i1, xI i2, xI i3] [] A R (fun v : Int × xN => some (xI v.1)) (fun v => v.2) (f_X9_addNote a i0 i1 i2 i3 R) := by
  rw [f_X9_addNote]
  refine ev_st (pc' := 8) (L' := [xR a, xI i0, xI i1, xI i2, xI i3]) (st' := [xR (a + 1), xR (a + 45)]) (fun _ _ _ k => e_aload_n dX9_addNote_0 rfl (i := 0) (x := a) rfl (e_getr dX9_addNote_1 flX9_19 (kd9_0 h_a) rfl (rf9_0_1 h_a) (e_aload_n dX9_addNote_4 rfl (i := 0) (x := a) rfl (e_getr dX9_addNote_5 flX9_10 (kd9_0 h_a) rfl (rf9_0_0 h_a) k)))) ?_
  refine ev_callV (As := [xR (a + 1)]) (st := []) (fun v1 => []) dX9_addNote_8 mlX9_58 (kd9_45 h_a) rfl rfl rfl rfl rfl rfl (c_X1_keep (d := d) (sb9_45_1 h_a) (sb9_1_8 h_a)) (fun _ => trivial) (fun _ => rfl) (fun v1 => ?_)
  refine ev_st (pc' := 30) (L' := [xR a, xI i0, xI i1, xI i2, xI i3]) (st' := [xI i3, xI i2, xI i1, xI i0, xR (a + 13), xR (a + 45)]) (fun _ _ _ k => e_aload_n dX9_addNote_11 rfl (i := 0) (x := a) rfl (e_getr dX9_addNote_12 flX9_19 (kd9_0 h_a) rfl (rf9_0_1 h_a) (e_aload_n dX9_addNote_15 rfl (i := 0) (x := a) rfl (e_getr dX9_addNote_16 flX9_10 (kd9_0 h_a) rfl (rf9_0_0 h_a) (e_getr dX9_addNote_19 flX9_62 (kd9_1 h_a) rfl (rf9_1_0 h_a) (e_getr dX9_addNote_22 flX9_119 (kd9_2 h_a) rfl (rf9_2_3 h_a) (e_iload_n dX9_addNote_25 rfl (i := 1) (x := i0) rfl (e_iload_n dX9_addNote_26 rfl (i := 2) (x := i1) rfl (e_iload_n dX9_addNote_27 rfl (i := 3) (x := i2) rfl (e_iload dX9_addNote_28 (i := 4) (x := i3) rfl k)))))))))) ?_
  refine ev_callV (As := [xI i0, xI i1, xI i2, xI i3]) (st := [xR (a + 45)]) (fun v2 => [xI v2.1, xR (a + 45)]) dX9_addNote_30 mlX9_123 (kd9_13 h_a) rfl rfl rfl rfl rfl rfl (c_X4_put (d := d + 3) (sb9_13_4 h_a) i0 i1 i2 i3) (fun _ => trivial) (fun _ => rfl) (fun v2 => ?_)
  refine ev_callV (As := [xI v2.1]) (st := []) (fun v3 => [xI v3.1]) dX9_addNote_33 mlX9_72 (kd9_45 h_a) rfl rfl rfl rfl rfl rfl (c_X1_settle (d := d + 2) (sb9_45_1 h_a) v2.1) (fun _ => trivial) (fun _ => rfl) (fun v3 => ?_)
  exact ev_ret (e_iret dX9_addNote_36)
def f_X9_removeNote (a : Nat) (i0 : Int) (R : xN) : Option (Int × xN) :=
  (f_X1_keep (a + 45) (a + 1) R).bind (fun v1 =>
  (f_X4_drop (a + 13) i0 v1).bind (fun v2 =>
  (f_X1_settle (a + 45) v2.1 v2.2).bind (fun v3 =>
  some (v3.1, v3.2))))
set_option maxRecDepth 20000 in
set_option maxHeartbeats 4000000 in
theorem c_X9_removeNote {l : Launch} {g : xG} {d : Nat} {A : xA} {R : xN} {a : Nat} (h_a : sh 9 A a) (i0 : Int) : Ev l g (d + 5) mX9_removeNote 0 [xR a, xI i0] [] A R (fun v : Int × xN => some (xI v.1)) (fun v => v.2) (f_X9_removeNote a i0 R) := by
  rw [f_X9_removeNote]
  refine ev_st (pc' := 8) (L' := [xR a, xI i0]) (st' := [xR (a + 1), xR (a + 45)]) (fun _ _ _ k => e_aload_n dX9_removeNote_0 rfl (i := 0) (x := a) rfl (e_getr dX9_removeNote_1 flX9_19 (kd9_0 h_a) rfl (rf9_0_1 h_a) (e_aload_n dX9_removeNote_4 rfl (i := 0) (x := a) rfl (e_getr dX9_removeNote_5 flX9_10 (kd9_0 h_a) rfl (rf9_0_0 h_a) k)))) ?_
  refine ev_callV (As := [xR (a + 1)]) (st := []) (fun v1 => []) dX9_removeNote_8 mlX9_58 (kd9_45 h_a) rfl rfl rfl rfl rfl rfl (c_X1_keep (d := d) (sb9_45_1 h_a) (sb9_1_8 h_a)) (fun _ => trivial) (fun _ => rfl) (fun v1 => ?_)
  refine ev_st (pc' := 26) (L' := [xR a, xI i0]) (st' := [xI i0, xR (a + 13), xR (a + 45)]) (fun _ _ _ k => e_aload_n dX9_removeNote_11 rfl (i := 0) (x := a) rfl (e_getr dX9_removeNote_12 flX9_19 (kd9_0 h_a) rfl (rf9_0_1 h_a) (e_aload_n dX9_removeNote_15 rfl (i := 0) (x := a) rfl (e_getr dX9_removeNote_16 flX9_10 (kd9_0 h_a) rfl (rf9_0_0 h_a) (e_getr dX9_removeNote_19 flX9_62 (kd9_1 h_a) rfl (rf9_1_0 h_a) (e_getr dX9_removeNote_22 flX9_119 (kd9_2 h_a) rfl (rf9_2_3 h_a) (e_iload_n dX9_removeNote_25 rfl (i := 1) (x := i0) rfl k))))))) ?_
  refine ev_callV (As := [xI i0]) (st := [xR (a + 45)]) (fun v2 => [xI v2.1, xR (a + 45)]) dX9_removeNote_26 mlX9_129 (kd9_13 h_a) rfl rfl rfl rfl rfl rfl (c_X4_drop (d := d + 2) (sb9_13_4 h_a) i0) (fun _ => trivial) (fun _ => rfl) (fun v2 => ?_)
  refine ev_callV (As := [xI v2.1]) (st := []) (fun v3 => [xI v3.1]) dX9_removeNote_29 mlX9_72 (kd9_45 h_a) rfl rfl rfl rfl rfl rfl (c_X1_settle (d := d + 2) (sb9_45_1 h_a) v2.1) (fun _ => trivial) (fun _ => rfl) (fun v3 => ?_)
  exact ev_ret (e_iret dX9_removeNote_32)
def f_X9_setLines (a : Nat) (i0 : Int) (R : xN) : Option (Int × xN) :=
  (f_X1_keep (a + 45) (a + 1) R).bind (fun v1 =>
  (f_X0_changeLines (a + 2) i0 v1).bind (fun v2 =>
  (f_X1_settle (a + 45) v2.1 v2.2).bind (fun v3 =>
  some (v3.1, v3.2))))
set_option maxRecDepth 20000 in
set_option maxHeartbeats 4000000 in
theorem c_X9_setLines {l : Launch} {g : xG} {d : Nat} {A : xA} {R : xN} {a : Nat} (h_a : sh 9 A a) (i0 : Int) : Ev l g (d + 5) mX9_setLines 0 [xR a, xI i0] [] A R (fun v : Int × xN => some (xI v.1)) (fun v => v.2) (f_X9_setLines a i0 R) := by
  rw [f_X9_setLines]
  refine ev_st (pc' := 8) (L' := [xR a, xI i0]) (st' := [xR (a + 1), xR (a + 45)]) (fun _ _ _ k => e_aload_n dX9_setLines_0 rfl (i := 0) (x := a) rfl (e_getr dX9_setLines_1 flX9_19 (kd9_0 h_a) rfl (rf9_0_1 h_a) (e_aload_n dX9_setLines_4 rfl (i := 0) (x := a) rfl (e_getr dX9_setLines_5 flX9_10 (kd9_0 h_a) rfl (rf9_0_0 h_a) k)))) ?_
  refine ev_callV (As := [xR (a + 1)]) (st := []) (fun v1 => []) dX9_setLines_8 mlX9_58 (kd9_45 h_a) rfl rfl rfl rfl rfl rfl (c_X1_keep (d := d) (sb9_45_1 h_a) (sb9_1_8 h_a)) (fun _ => trivial) (fun _ => rfl) (fun v1 => ?_)
  refine ev_st (pc' := 23) (L' := [xR a, xI i0]) (st' := [xI i0, xR (a + 2), xR (a + 45)]) (fun _ _ _ k => e_aload_n dX9_setLines_11 rfl (i := 0) (x := a) rfl (e_getr dX9_setLines_12 flX9_19 (kd9_0 h_a) rfl (rf9_0_1 h_a) (e_aload_n dX9_setLines_15 rfl (i := 0) (x := a) rfl (e_getr dX9_setLines_16 flX9_10 (kd9_0 h_a) rfl (rf9_0_0 h_a) (e_getr dX9_setLines_19 flX9_62 (kd9_1 h_a) rfl (rf9_1_0 h_a) (e_iload_n dX9_setLines_22 rfl (i := 1) (x := i0) rfl k)))))) ?_
  refine ev_callV (As := [xI i0]) (st := [xR (a + 45)]) (fun v2 => [xI v2.1, xR (a + 45)]) dX9_setLines_23 mlX9_132 (kd9_2 h_a) rfl rfl rfl rfl rfl rfl (c_X0_changeLines (d := d + 3) (sb9_2_0 h_a) i0) (fun _ => trivial) (fun _ => rfl) (fun v2 => ?_)
  refine ev_callV (As := [xI v2.1]) (st := []) (fun v3 => [xI v3.1]) dX9_setLines_26 mlX9_72 (kd9_45 h_a) rfl rfl rfl rfl rfl rfl (c_X1_settle (d := d + 2) (sb9_45_1 h_a) v2.1) (fun _ => trivial) (fun _ => rfl) (fun v3 => ?_)
  exact ev_ret (e_iret dX9_setLines_29)
def f_X9_take (a : Nat) (i0 : Int) (R : xN) : Option (Int × xN) :=
  (f_X1_keep (a + 45) (a + 1) R).bind (fun v1 =>
  (f_X8_fillSlot (a + 1) i0 v1).bind (fun v2 =>
  (f_X1_settle (a + 45) v2.1 v2.2).bind (fun v3 =>
  some (v3.1, v3.2))))
set_option maxRecDepth 20000 in
set_option maxHeartbeats 4000000 in
theorem c_X9_take {l : Launch} {g : xG} {d : Nat} {A : xA} {R : xN} {a : Nat} (h_a : sh 9 A a) (i0 : Int) : Ev l g (d + 5) mX9_take 0 [xR a, xI i0] [] A R (fun v : Int × xN => some (xI v.1)) (fun v => v.2) (f_X9_take a i0 R) := by
  rw [f_X9_take]
  refine ev_st (pc' := 8) (L' := [xR a, xI i0]) (st' := [xR (a + 1), xR (a + 45)]) (fun _ _ _ k => e_aload_n dX9_take_0 rfl (i := 0) (x := a) rfl (e_getr dX9_take_1 flX9_19 (kd9_0 h_a) rfl (rf9_0_1 h_a) (e_aload_n dX9_take_4 rfl (i := 0) (x := a) rfl (e_getr dX9_take_5 flX9_10 (kd9_0 h_a) rfl (rf9_0_0 h_a) k)))) ?_
  refine ev_callV (As := [xR (a + 1)]) (st := []) (fun v1 => []) dX9_take_8 mlX9_58 (kd9_45 h_a) rfl rfl rfl rfl rfl rfl (c_X1_keep (d := d) (sb9_45_1 h_a) (sb9_1_8 h_a)) (fun _ => trivial) (fun _ => rfl) (fun v1 => ?_)
  refine ev_st (pc' := 20) (L' := [xR a, xI i0]) (st' := [xI i0, xR (a + 1), xR (a + 45)]) (fun _ _ _ k => e_aload_n dX9_take_11 rfl (i := 0) (x := a) rfl (e_getr dX9_take_12 flX9_19 (kd9_0 h_a) rfl (rf9_0_1 h_a) (e_aload_n dX9_take_15 rfl (i := 0) (x := a) rfl (e_getr dX9_take_16 flX9_10 (kd9_0 h_a) rfl (rf9_0_0 h_a) (e_iload_n dX9_take_19 rfl (i := 1) (x := i0) rfl k))))) ?_
  refine ev_callV (As := [xI i0]) (st := [xR (a + 45)]) (fun v2 => [xI v2.1, xR (a + 45)]) dX9_take_20 mlX9_135 (kd9_1 h_a) rfl rfl rfl rfl rfl rfl (c_X8_fillSlot (d := d + 1) (sb9_1_8 h_a) i0) (fun _ => trivial) (fun _ => rfl) (fun v2 => ?_)
  refine ev_callV (As := [xI v2.1]) (st := []) (fun v3 => [xI v3.1]) dX9_take_23 mlX9_72 (kd9_45 h_a) rfl rfl rfl rfl rfl rfl (c_X1_settle (d := d + 2) (sb9_45_1 h_a) v2.1) (fun _ => trivial) (fun _ => rfl) (fun v3 => ?_)
  exact ev_ret (e_iret dX9_take_26)
def f_X9_restore (a : Nat) (i0 : Int) (R : xN) : Option (Int × xN) :=
  (f_X1_keep (a + 45) (a + 1) R).bind (fun v1 =>
  (f_X8_useSlot (a + 1) i0 v1).bind (fun v2 =>
  (f_X1_settle (a + 45) v2.1 v2.2).bind (fun v3 =>
  some (v3.1, v3.2))))
set_option maxRecDepth 20000 in
set_option maxHeartbeats 4000000 in
theorem c_X9_restore {l : Launch} {g : xG} {d : Nat} {A : xA} {R : xN} {a : Nat} (h_a : sh 9 A a) (i0 : Int) : Ev l g (d + 5) mX9_restore 0 [xR a, xI i0] [] A R (fun v : Int × xN => some (xI v.1)) (fun v => v.2) (f_X9_restore a i0 R) := by
  rw [f_X9_restore]
  refine ev_st (pc' := 8) (L' := [xR a, xI i0]) (st' := [xR (a + 1), xR (a + 45)]) (fun _ _ _ k => e_aload_n dX9_restore_0 rfl (i := 0) (x := a) rfl (e_getr dX9_restore_1 flX9_19 (kd9_0 h_a) rfl (rf9_0_1 h_a) (e_aload_n dX9_restore_4 rfl (i := 0) (x := a) rfl (e_getr dX9_restore_5 flX9_10 (kd9_0 h_a) rfl (rf9_0_0 h_a) k)))) ?_
  refine ev_callV (As := [xR (a + 1)]) (st := []) (fun v1 => []) dX9_restore_8 mlX9_58 (kd9_45 h_a) rfl rfl rfl rfl rfl rfl (c_X1_keep (d := d) (sb9_45_1 h_a) (sb9_1_8 h_a)) (fun _ => trivial) (fun _ => rfl) (fun v1 => ?_)
  refine ev_st (pc' := 20) (L' := [xR a, xI i0]) (st' := [xI i0, xR (a + 1), xR (a + 45)]) (fun _ _ _ k => e_aload_n dX9_restore_11 rfl (i := 0) (x := a) rfl (e_getr dX9_restore_12 flX9_19 (kd9_0 h_a) rfl (rf9_0_1 h_a) (e_aload_n dX9_restore_15 rfl (i := 0) (x := a) rfl (e_getr dX9_restore_16 flX9_10 (kd9_0 h_a) rfl (rf9_0_0 h_a) (e_iload_n dX9_restore_19 rfl (i := 1) (x := i0) rfl k))))) ?_
  refine ev_callV (As := [xI i0]) (st := [xR (a + 45)]) (fun v2 => [xI v2.1, xR (a + 45)]) dX9_restore_20 mlX9_138 (kd9_1 h_a) rfl rfl rfl rfl rfl rfl (c_X8_useSlot (d := d + 1) (sb9_1_8 h_a) i0) (fun _ => trivial) (fun _ => rfl) (fun v2 => ?_)
  refine ev_callV (As := [xI v2.1]) (st := []) (fun v3 => [xI v3.1]) dX9_restore_23 mlX9_72 (kd9_45 h_a) rfl rfl rfl rfl rfl rfl (c_X1_settle (d := d + 2) (sb9_45_1 h_a) v2.1) (fun _ => trivial) (fun _ => rfl) (fun v3 => ?_)
  exact ev_ret (e_iret dX9_restore_26)
def f_X9_undo (a : Nat) (R : xN) : Option (Int × xN) :=
  (f_X1_goBack (a + 45) (a + 1) R).bind (fun v1 =>
  some (v1.1, v1.2))
set_option maxRecDepth 20000 in
set_option maxHeartbeats 4000000 in
theorem c_X9_undo {l : Launch} {g : xG} {d : Nat} {A : xA} {R : xN} {a : Nat} (h_a : sh 9 A a)  : Ev l g (d + 6) mX9_undo 0 [xR a] [] A R (fun v : Int × xN => some (xI v.1)) (fun v => v.2) (f_X9_undo a R) := by
  rw [f_X9_undo]
  refine ev_st (pc' := 8) (L' := [xR a]) (st' := [xR (a + 1), xR (a + 45)]) (fun _ _ _ k => e_aload_n dX9_undo_0 rfl (i := 0) (x := a) rfl (e_getr dX9_undo_1 flX9_19 (kd9_0 h_a) rfl (rf9_0_1 h_a) (e_aload_n dX9_undo_4 rfl (i := 0) (x := a) rfl (e_getr dX9_undo_5 flX9_10 (kd9_0 h_a) rfl (rf9_0_0 h_a) k)))) ?_
  refine ev_callV (As := [xR (a + 1)]) (st := []) (fun v1 => [xI v1.1]) dX9_undo_8 mlX9_141 (kd9_45 h_a) rfl rfl rfl rfl rfl rfl (c_X1_goBack (d := d) (sb9_45_1 h_a) (sb9_1_8 h_a)) (fun _ => trivial) (fun _ => rfl) (fun v1 => ?_)
  exact ev_ret (e_iret dX9_undo_11)
def f_X9_append (a : Nat) (i0 : Int) (R : xN) : Option (Int × xN) :=
  (f_X9_isIn i0 1 255 R).bind (fun v1 =>
  if v1 = true then
  if (R a 5) < 0 then
  some ((-3), R)
  else
  if (R a 5) < 120 then
  if 0 ≤ (R a 5) ∧ (R a 5) < 120 then
  xlet (xup R (a + 319) ((R a 5)).toNat i0) (fun R6 =>
  xlet (xup R6 a 5 (w4 ((R6 a 5) + 1))) (fun R7 =>
  some ((R7 a 5), R7)))
  else none
  else
  some ((-3), R)
  else
  some ((-1), R))
set_option maxRecDepth 20000 in
set_option maxHeartbeats 4000000 in
theorem c_X9_append {l : Launch} {g : xG} {d : Nat} {A : xA} {R : xN} {a : Nat} (h_a : sh 9 A a) (i0 : Int) : Ev l g (d + 1) mX9_append 0 [xR a, xI i0] [] A R (fun v : Int × xN => some (xI v.1)) (fun v => v.2) (f_X9_append a i0 R) := by
  rw [f_X9_append]
  refine ev_st (pc' := 5) (L' := [xR a, xI i0]) (st' := [xI 255, xI 1, xI i0]) (fun _ _ _ k => e_iload_n dX9_append_0 rfl (i := 1) (x := i0) rfl (e_iconst dX9_append_1 (k4 rfl) (e_sipush dX9_append_2 rfl (k4 rfl) k))) ?_
  refine ev_callS (As := [xI i0, xI 1, xI 255]) (st := []) (fun v1 => [xI (xz v1)]) dX9_append_5 mlX9_145 rfl rfl rfl rfl rfl rfl (c_X9_isIn (d := d) i0 1 255) (fun _ => xz01 _) (fun _ => rfl) (fun v1 => ?_)
  refine ev_br2 (P := v1 = true) (pct := 13) (pcf := 11) (st' := []) (fun _ _ _ kt kf => e_ifnez dX9_append_8 (tgt := 13) rfl kt kf) (fun h2 => ?_) (fun h2 => ?_)
  · refine ev_st (pc' := 17) (L' := [xR a, xI i0]) (st' := [xI (R a 5)]) (fun _ _ _ k => e_aload_n dX9_append_13 rfl (i := 0) (x := a) rfl (e_geti dX9_append_14 flX9_41 (kd9_0 h_a) (Or.inl rfl) k)) ?_
    refine ev_br2 (P := (R a 5) < 0) (pct := 29) (pcf := 20) (st' := []) (fun _ _ _ kt kf => e_iflt dX9_append_17 (tgt := 29) rfl kt kf) (fun h3 => ?_) (fun h3 => ?_)
    · exact ev_ret (e_bipush dX9_append_29 rfl (k4 rfl) (e_iret dX9_append_31))
    · refine ev_st (pc' := 26) (L' := [xR a, xI i0]) (st' := [xI 120, xI (R a 5)]) (fun _ _ _ k => e_aload_n dX9_append_20 rfl (i := 0) (x := a) rfl (e_geti dX9_append_21 flX9_41 (kd9_0 h_a) (Or.inl rfl) (e_bipush dX9_append_24 rfl (k4 rfl) k))) ?_
      refine ev_br2 (P := (R a 5) < 120) (pct := 32) (pcf := 29) (st' := []) (fun _ _ _ kt kf => e_clt dX9_append_26 (tgt := 32) rfl kt kf) (fun h4 => ?_) (fun h4 => ?_)
      · refine ev_st (pc' := 41) (L' := [xR a, xI i0]) (st' := [xI i0, xI (R a 5), xR (a + 319)]) (fun _ _ _ k => e_aload_n dX9_append_32 rfl (i := 0) (x := a) rfl (e_getr dX9_append_33 flX9_37 (kd9_0 h_a) rfl (rf9_0_4 h_a) (e_aload_n dX9_append_36 rfl (i := 0) (x := a) rfl (e_geti dX9_append_37 flX9_41 (kd9_0 h_a) (Or.inl rfl) (e_iload_n dX9_append_40 rfl (i := 1) (x := i0) rfl k))))) ?_
        refine ev_chk (fun h5 => ?_)
        refine ev_st (pc' := 42) (L' := [xR a, xI i0]) (st' := []) (fun _ _ _ k => e_iast dX9_append_41 (kd9_319 h_a) h5.1 h5.2 k) ?_
        refine ev_letR (fun R6 eR6 => ?_)
        refine ev_st (pc' := 52) (L' := [xR a, xI i0]) (st' := []) (fun _ _ _ k => e_aload_n dX9_append_42 rfl (i := 0) (x := a) rfl (e_dupR dX9_append_43 (e_geti dX9_append_44 flX9_41 (kd9_0 h_a) (Or.inl rfl) (e_iconst dX9_append_47 (k4 rfl) (e_iadd dX9_append_48 (e_puti dX9_append_49 flX9_41 (kd9_0 h_a) (Or.inl rfl) rfl k)))))) ?_
        refine ev_letR (fun R7 eR7 => ?_)
        exact ev_ret (e_aload_n dX9_append_52 rfl (i := 0) (x := a) rfl (e_geti dX9_append_53 flX9_41 (kd9_0 h_a) (Or.inl rfl) (e_iret dX9_append_56)))
      · exact ev_ret (e_bipush dX9_append_29 rfl (k4 rfl) (e_iret dX9_append_31))
  · exact ev_ret (e_iconst dX9_append_11 (k4 rfl) (e_iret dX9_append_12))
def f_X9_clearText (a : Nat) (R : xN) : Option (Int × xN) :=
  xlet (R a 5) (fun x1 =>
  xlet (xup R a 5 0) (fun R2 =>
  some (x1, R2)))
set_option maxRecDepth 20000 in
set_option maxHeartbeats 4000000 in
theorem c_X9_clearText {l : Launch} {g : xG} {d : Nat} {A : xA} {R : xN} {a : Nat} (h_a : sh 9 A a)  : Ev l g (d) mX9_clearText 0 [xR a, xU] [] A R (fun v : Int × xN => some (xI v.1)) (fun v => v.2) (f_X9_clearText a R) := by
  rw [f_X9_clearText]
  refine ev_st (pc' := 4) (L' := [xR a, xU]) (st' := [xI (R a 5)]) (fun _ _ _ k => e_aload_n dX9_clearText_0 rfl (i := 0) (x := a) rfl (e_geti dX9_clearText_1 flX9_41 (kd9_0 h_a) (Or.inl rfl) k)) ?_
  refine ev_leti (fun x1 ex1 => ?_)
  refine ev_st (pc' := 5) (L' := [xR a, xI x1]) (st' := []) (fun _ _ _ k => e_istore_n dX9_clearText_4 rfl (i := 1) rfl (L' := [xR a, xI x1]) rfl k) ?_
  refine ev_st (pc' := 10) (L' := [xR a, xI x1]) (st' := []) (fun _ _ _ k => e_aload_n dX9_clearText_5 rfl (i := 0) (x := a) rfl (e_iconst dX9_clearText_6 (k4 rfl) (e_puti dX9_clearText_7 flX9_41 (kd9_0 h_a) (Or.inl rfl) rfl k))) ?_
  refine ev_letR (fun R2 eR2 => ?_)
  exact ev_ret (e_iload_n dX9_clearText_10 rfl (i := 1) (x := x1) rfl (e_iret dX9_clearText_11))
def f_X9_wordOf (i0 : Int) (R : xN) : Option (Nat) :=
  if i0 = 1 then
  some 0
  else
  if i0 = 2 then
  some 1
  else
  if i0 = 3 then
  some 2
  else
  if i0 = 4 then
  some 3
  else
  if i0 = 5 then
  some 4
  else
  if i0 = 6 then
  some 5
  else
  if i0 = 7 then
  some 6
  else
  if i0 = 8 then
  some 7
  else
  if i0 = 9 then
  some 8
  else
  some 9
set_option maxRecDepth 20000 in
set_option maxHeartbeats 4000000 in
theorem c_X9_wordOf {l : Launch} {g : xG} {d : Nat} {A : xA} {R : xN}  (i0 : Int) : Ev l g (d) mX9_wordOf 0 [xI i0] [] A R (fun v : Nat => some (xS v)) (fun _ => R) (f_X9_wordOf i0 R) := by
  rw [f_X9_wordOf]
  refine ev_st (pc' := 1) (L' := [xI i0]) (st' := [xI i0]) (fun _ _ _ k => e_iload_n dX9_wordOf_0 rfl (i := 0) (x := i0) rfl k) ?_
  refine ev_ite (P := i0 = 1) (fun h1 => ?_) (fun h1 => ?_)
  · refine ev_st (pc' := 52) (L' := [xI i0]) (st' := []) (fun _ _ _ k => e_tin dX9_wordOf_1 (tgt := 52) (off := 51) (by omega) (by omega) (by rw [h1]; rfl) rfl k) ?_
    exact ev_ret (e_ldcS (i := 0) (by decide) rfl dX9_wordOf_52 (e_aretS dX9_wordOf_54))
  refine ev_ite (P := i0 = 2) (fun h2 => ?_) (fun h2 => ?_)
  · refine ev_st (pc' := 55) (L' := [xI i0]) (st' := []) (fun _ _ _ k => e_tin dX9_wordOf_1 (tgt := 55) (off := 54) (by omega) (by omega) (by rw [h2]; rfl) rfl k) ?_
    exact ev_ret (e_ldcS (i := 1) (by decide) rfl dX9_wordOf_55 (e_aretS dX9_wordOf_57))
  refine ev_ite (P := i0 = 3) (fun h3 => ?_) (fun h3 => ?_)
  · refine ev_st (pc' := 58) (L' := [xI i0]) (st' := []) (fun _ _ _ k => e_tin dX9_wordOf_1 (tgt := 58) (off := 57) (by omega) (by omega) (by rw [h3]; rfl) rfl k) ?_
    exact ev_ret (e_ldcS (i := 2) (by decide) rfl dX9_wordOf_58 (e_aretS dX9_wordOf_60))
  refine ev_ite (P := i0 = 4) (fun h4 => ?_) (fun h4 => ?_)
  · refine ev_st (pc' := 61) (L' := [xI i0]) (st' := []) (fun _ _ _ k => e_tin dX9_wordOf_1 (tgt := 61) (off := 60) (by omega) (by omega) (by rw [h4]; rfl) rfl k) ?_
    exact ev_ret (e_ldcS (i := 3) (by decide) rfl dX9_wordOf_61 (e_aretS dX9_wordOf_63))
  refine ev_ite (P := i0 = 5) (fun h5 => ?_) (fun h5 => ?_)
  · refine ev_st (pc' := 64) (L' := [xI i0]) (st' := []) (fun _ _ _ k => e_tin dX9_wordOf_1 (tgt := 64) (off := 63) (by omega) (by omega) (by rw [h5]; rfl) rfl k) ?_
    exact ev_ret (e_ldcS (i := 4) (by decide) rfl dX9_wordOf_64 (e_aretS dX9_wordOf_66))
  refine ev_ite (P := i0 = 6) (fun h6 => ?_) (fun h6 => ?_)
  · refine ev_st (pc' := 67) (L' := [xI i0]) (st' := []) (fun _ _ _ k => e_tin dX9_wordOf_1 (tgt := 67) (off := 66) (by omega) (by omega) (by rw [h6]; rfl) rfl k) ?_
    exact ev_ret (e_ldcS (i := 5) (by decide) rfl dX9_wordOf_67 (e_aretS dX9_wordOf_69))
  refine ev_ite (P := i0 = 7) (fun h7 => ?_) (fun h7 => ?_)
  · refine ev_st (pc' := 70) (L' := [xI i0]) (st' := []) (fun _ _ _ k => e_tin dX9_wordOf_1 (tgt := 70) (off := 69) (by omega) (by omega) (by rw [h7]; rfl) rfl k) ?_
    exact ev_ret (e_ldcS (i := 6) (by decide) rfl dX9_wordOf_70 (e_aretS dX9_wordOf_72))
  refine ev_ite (P := i0 = 8) (fun h8 => ?_) (fun h8 => ?_)
  · refine ev_st (pc' := 73) (L' := [xI i0]) (st' := []) (fun _ _ _ k => e_tin dX9_wordOf_1 (tgt := 73) (off := 72) (by omega) (by omega) (by rw [h8]; rfl) rfl k) ?_
    exact ev_ret (e_ldcS (i := 7) (by decide) rfl dX9_wordOf_73 (e_aretS dX9_wordOf_75))
  refine ev_ite (P := i0 = 9) (fun h9 => ?_) (fun h9 => ?_)
  · refine ev_st (pc' := 76) (L' := [xI i0]) (st' := []) (fun _ _ _ k => e_tin dX9_wordOf_1 (tgt := 76) (off := 75) (by omega) (by omega) (by rw [h9]; rfl) rfl k) ?_
    exact ev_ret (e_ldcS (i := 8) (by decide) rfl dX9_wordOf_76 (e_aretS dX9_wordOf_78))
  refine ev_st (pc' := 79) (L' := [xI i0]) (st' := []) (fun _ _ _ k => e_tout dX9_wordOf_1 (tgt := 79) (by omega) rfl k) ?_
  exact ev_ret (e_ldcS (i := 9) (by decide) rfl dX9_wordOf_79 (e_aretS dX9_wordOf_81))
