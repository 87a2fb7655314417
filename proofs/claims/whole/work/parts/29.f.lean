def f_X10_addNote (a : Nat) (i0 : Int) (i1 : Int) (i2 : Int) (i3 : Int) (R : xN) : Option (Int × xN) :=
  (f_X10_in i0 0 99 R).bind (fun v1 =>
  if v1 = true then
  (f_X10_in i1 0 9 R).bind (fun v3 =>
  if v3 = true then
  (f_X10_in i2 1 20 R).bind (fun v5 =>
  if v5 = true then
  (f_X10_in i3 0 1 R).bind (fun v7 =>
  if v7 = true then
  if (R (a + 1) 37) = 12 then
  some ((-3), R)
  else
  (f_X10_act a R).bind (fun v10 =>
  xlet (w4 (38 + (w4 (4 * (v10 (a + 1) 37))))) (fun x11 =>
  if 0 ≤ x11 ∧ x11 < 464 then
  xlet (xup v10 (a + 1) (x11).toNat i0) (fun R13 =>
  if 0 ≤ (w4 (x11 + 1)) ∧ (w4 (x11 + 1)) < 464 then
  xlet (xup R13 (a + 1) ((w4 (x11 + 1))).toNat i1) (fun R15 =>
  if 0 ≤ (w4 (x11 + 2)) ∧ (w4 (x11 + 2)) < 464 then
  xlet (xup R15 (a + 1) ((w4 (x11 + 2))).toNat i2) (fun R17 =>
  if 0 ≤ (w4 (x11 + 3)) ∧ (w4 (x11 + 3)) < 464 then
  xlet (xup R17 (a + 1) ((w4 (x11 + 3))).toNat i3) (fun R19 =>
  xlet (xup R19 (a + 1) 37 (w4 ((R19 (a + 1) 37) + 1))) (fun R20 =>
  some ((w4 ((R20 (a + 1) 37) - 1)), R20)))
  else none)
  else none)
  else none)
  else none))
  else
  some ((-1), R))
  else
  some ((-1), R))
  else
  some ((-1), R))
  else
  some ((-1), R))
set_option maxRecDepth 20000 in
set_option maxHeartbeats 4000000 in
theorem c_X10_addNote {l : Launch} {g : xG} {d : Nat} {A : xA} {R : xN} {a : Nat} (h_a : sh 10 A a) (i0 : Int) (i1 : Int) (i2 : Int) (i3 : Int) : Ev l g (d + 2) mX10_addNote 0 [xR a, xI i0, xI i1, xI i2, xI i3, xU] [] A R (fun v : Int × xN => some (xI v.1)) (fun v => v.2) (f_X10_addNote a i0 i1 i2 i3 R) := by
  rw [f_X10_addNote]
  refine ev_st (pc' := 6) (L' := [xR a, xI i0, xI i1, xI i2, xI i3, xU]) (st' := [xL 99, xL 0, xL i0]) (fun _ _ _ k => e_iload_n dX10_addNote_0 rfl (i := 1) (x := i0) rfl (e_i2l dX10_addNote_1 (e_lconst dX10_addNote_2 (i := 0) rfl (k8 rfl) (e_ldc2 dX10_addNote_3 ckX10_175 (k8 rfl) k)))) ?_
  refine ev_callS (As := [xL i0, xL 0, xL 99]) (st := []) (fun v1 => [xI (xz v1)]) dX10_addNote_6 mlX10_101 rfl rfl rfl rfl rfl rfl (c_X10_in (d := d + 1) i0 0 99) (fun _ => xz01 _) (fun _ => rfl) (fun v1 => ?_)
  refine ev_br2 (P := v1 = true) (pct := 12) (pcf := 47) (st' := []) (fun _ _ _ kt kf => e_ifeqz dX10_addNote_9 (tgt := 47) rfl kt kf) (fun h2 => ?_) (fun h2 => ?_)
  · refine ev_st (pc' := 18) (L' := [xR a, xI i0, xI i1, xI i2, xI i3, xU]) (st' := [xL 9, xL 0, xL i1]) (fun _ _ _ k => e_iload_n dX10_addNote_12 rfl (i := 2) (x := i1) rfl (e_i2l dX10_addNote_13 (e_lconst dX10_addNote_14 (i := 0) rfl (k8 rfl) (e_ldc2 dX10_addNote_15 ckX10_168 (k8 rfl) k)))) ?_
    refine ev_callS (As := [xL i1, xL 0, xL 9]) (st := []) (fun v3 => [xI (xz v3)]) dX10_addNote_18 mlX10_101 rfl rfl rfl rfl rfl rfl (c_X10_in (d := d + 1) i1 0 9) (fun _ => xz01 _) (fun _ => rfl) (fun v3 => ?_)
    refine ev_br2 (P := v3 = true) (pct := 24) (pcf := 47) (st' := []) (fun _ _ _ kt kf => e_ifeqz dX10_addNote_21 (tgt := 47) rfl kt kf) (fun h4 => ?_) (fun h4 => ?_)
    · refine ev_st (pc' := 30) (L' := [xR a, xI i0, xI i1, xI i2, xI i3, xU]) (st' := [xL 20, xL 1, xL i2]) (fun _ _ _ k => e_iload_n dX10_addNote_24 rfl (i := 3) (x := i2) rfl (e_i2l dX10_addNote_25 (e_lconst dX10_addNote_26 (i := 1) rfl (k8 rfl) (e_ldc2 dX10_addNote_27 ckX10_177 (k8 rfl) k)))) ?_
      refine ev_callS (As := [xL i2, xL 1, xL 20]) (st := []) (fun v5 => [xI (xz v5)]) dX10_addNote_30 mlX10_101 rfl rfl rfl rfl rfl rfl (c_X10_in (d := d + 1) i2 1 20) (fun _ => xz01 _) (fun _ => rfl) (fun v5 => ?_)
      refine ev_br2 (P := v5 = true) (pct := 36) (pcf := 47) (st' := []) (fun _ _ _ kt kf => e_ifeqz dX10_addNote_33 (tgt := 47) rfl kt kf) (fun h6 => ?_) (fun h6 => ?_)
      · refine ev_st (pc' := 41) (L' := [xR a, xI i0, xI i1, xI i2, xI i3, xU]) (st' := [xL 1, xL 0, xL i3]) (fun _ _ _ k => e_iload dX10_addNote_36 (i := 4) (x := i3) rfl (e_i2l dX10_addNote_38 (e_lconst dX10_addNote_39 (i := 0) rfl (k8 rfl) (e_lconst dX10_addNote_40 (i := 1) rfl (k8 rfl) k)))) ?_
        refine ev_callS (As := [xL i3, xL 0, xL 1]) (st := []) (fun v7 => [xI (xz v7)]) dX10_addNote_41 mlX10_101 rfl rfl rfl rfl rfl rfl (c_X10_in (d := d + 1) i3 0 1) (fun _ => xz01 _) (fun _ => rfl) (fun v7 => ?_)
        refine ev_br2 (P := v7 = true) (pct := 49) (pcf := 47) (st' := []) (fun _ _ _ kt kf => e_ifnez dX10_addNote_44 (tgt := 49) rfl kt kf) (fun h8 => ?_) (fun h8 => ?_)
        · refine ev_st (pc' := 58) (L' := [xR a, xI i0, xI i1, xI i2, xI i3, xU]) (st' := [xI 12, xI (R (a + 1) 37)]) (fun _ _ _ k => e_aload_n dX10_addNote_49 rfl (i := 0) (x := a) rfl (e_getr dX10_addNote_50 flX10_7 (kd10_0 h_a) rfl (rf10_0_0 h_a) (e_bipush dX10_addNote_53 rfl (k4 rfl) (e_iald dX10_addNote_55 (kd10_1 h_a) (by decide) (by decide) (e_bipush dX10_addNote_56 rfl (k4 rfl) k))))) ?_
          refine ev_br2 (P := (R (a + 1) 37) = 12) (pct := 61) (pcf := 64) (st' := []) (fun _ _ _ kt kf => e_cne dX10_addNote_58 (tgt := 64) rfl kt kf) (fun h9 => ?_) (fun h9 => ?_)
          · exact ev_ret (e_bipush dX10_addNote_61 rfl (k4 rfl) (e_iret dX10_addNote_63))
          · refine ev_st (pc' := 65) (L' := [xR a, xI i0, xI i1, xI i2, xI i3, xU]) (st' := [xR a]) (fun _ _ _ k => e_aload_n dX10_addNote_64 rfl (i := 0) (x := a) rfl k) ?_
            refine ev_callV (As := []) (st := []) (fun v10 => []) dX10_addNote_65 mlX10_139 (kd10_0 h_a) rfl rfl rfl rfl rfl rfl (c_X10_act (d := d) h_a) (fun _ => trivial) (fun _ => rfl) (fun v10 => ?_)
            refine ev_st (pc' := 80) (L' := [xR a, xI i0, xI i1, xI i2, xI i3, xU]) (st' := [xI (w4 (38 + (w4 (4 * (v10 (a + 1) 37)))))]) (fun _ _ _ k => e_bipush dX10_addNote_68 rfl (k4 rfl) (e_iconst dX10_addNote_70 (k4 rfl) (e_aload_n dX10_addNote_71 rfl (i := 0) (x := a) rfl (e_getr dX10_addNote_72 flX10_7 (kd10_0 h_a) rfl (rf10_0_0 h_a) (e_bipush dX10_addNote_75 rfl (k4 rfl) (e_iald dX10_addNote_77 (kd10_1 h_a) (by decide) (by decide) (e_imul dX10_addNote_78 (e_iadd dX10_addNote_79 k)))))))) ?_
            refine ev_leti (fun x11 ex11 => ?_)
            refine ev_st (pc' := 82) (L' := [xR a, xI i0, xI i1, xI i2, xI i3, xI x11]) (st' := []) (fun _ _ _ k => e_istore dX10_addNote_80 (i := 5) rfl (L' := [xR a, xI i0, xI i1, xI i2, xI i3, xI x11]) rfl k) ?_
            refine ev_st (pc' := 89) (L' := [xR a, xI i0, xI i1, xI i2, xI i3, xI x11]) (st' := [xI i0, xI x11, xR (a + 1)]) (fun _ _ _ k => e_aload_n dX10_addNote_82 rfl (i := 0) (x := a) rfl (e_getr dX10_addNote_83 flX10_7 (kd10_0 h_a) rfl (rf10_0_0 h_a) (e_iload dX10_addNote_86 (i := 5) (x := x11) rfl (e_iload_n dX10_addNote_88 rfl (i := 1) (x := i0) rfl k)))) ?_
            refine ev_chk (fun h12 => ?_)
            refine ev_st (pc' := 90) (L' := [xR a, xI i0, xI i1, xI i2, xI i3, xI x11]) (st' := []) (fun _ _ _ k => e_iast dX10_addNote_89 (kd10_1 h_a) h12.1 h12.2 k) ?_
            refine ev_letR (fun R13 eR13 => ?_)
            refine ev_st (pc' := 99) (L' := [xR a, xI i0, xI i1, xI i2, xI i3, xI x11]) (st' := [xI i1, xI (w4 (x11 + 1)), xR (a + 1)]) (fun _ _ _ k => e_aload_n dX10_addNote_90 rfl (i := 0) (x := a) rfl (e_getr dX10_addNote_91 flX10_7 (kd10_0 h_a) rfl (rf10_0_0 h_a) (e_iload dX10_addNote_94 (i := 5) (x := x11) rfl (e_iconst dX10_addNote_96 (k4 rfl) (e_iadd dX10_addNote_97 (e_iload_n dX10_addNote_98 rfl (i := 2) (x := i1) rfl k)))))) ?_
            refine ev_chk (fun h14 => ?_)
            refine ev_st (pc' := 100) (L' := [xR a, xI i0, xI i1, xI i2, xI i3, xI x11]) (st' := []) (fun _ _ _ k => e_iast dX10_addNote_99 (kd10_1 h_a) h14.1 h14.2 k) ?_
            refine ev_letR (fun R15 eR15 => ?_)
            refine ev_st (pc' := 109) (L' := [xR a, xI i0, xI i1, xI i2, xI i3, xI x11]) (st' := [xI i2, xI (w4 (x11 + 2)), xR (a + 1)]) (fun _ _ _ k => e_aload_n dX10_addNote_100 rfl (i := 0) (x := a) rfl (e_getr dX10_addNote_101 flX10_7 (kd10_0 h_a) rfl (rf10_0_0 h_a) (e_iload dX10_addNote_104 (i := 5) (x := x11) rfl (e_iconst dX10_addNote_106 (k4 rfl) (e_iadd dX10_addNote_107 (e_iload_n dX10_addNote_108 rfl (i := 3) (x := i2) rfl k)))))) ?_
            refine ev_chk (fun h16 => ?_)
            refine ev_st (pc' := 110) (L' := [xR a, xI i0, xI i1, xI i2, xI i3, xI x11]) (st' := []) (fun _ _ _ k => e_iast dX10_addNote_109 (kd10_1 h_a) h16.1 h16.2 k) ?_
            refine ev_letR (fun R17 eR17 => ?_)
            refine ev_st (pc' := 120) (L' := [xR a, xI i0, xI i1, xI i2, xI i3, xI x11]) (st' := [xI i3, xI (w4 (x11 + 3)), xR (a + 1)]) (fun _ _ _ k => e_aload_n dX10_addNote_110 rfl (i := 0) (x := a) rfl (e_getr dX10_addNote_111 flX10_7 (kd10_0 h_a) rfl (rf10_0_0 h_a) (e_iload dX10_addNote_114 (i := 5) (x := x11) rfl (e_iconst dX10_addNote_116 (k4 rfl) (e_iadd dX10_addNote_117 (e_iload dX10_addNote_118 (i := 4) (x := i3) rfl k)))))) ?_
            refine ev_chk (fun h18 => ?_)
            refine ev_st (pc' := 121) (L' := [xR a, xI i0, xI i1, xI i2, xI i3, xI x11]) (st' := []) (fun _ _ _ k => e_iast dX10_addNote_120 (kd10_1 h_a) h18.1 h18.2 k) ?_
            refine ev_letR (fun R19 eR19 => ?_)
            refine ev_st (pc' := 132) (L' := [xR a, xI i0, xI i1, xI i2, xI i3, xI x11]) (st' := []) (fun _ _ _ k => e_aload_n dX10_addNote_121 rfl (i := 0) (x := a) rfl (e_getr dX10_addNote_122 flX10_7 (kd10_0 h_a) rfl (rf10_0_0 h_a) (e_bipush dX10_addNote_125 rfl (k4 rfl) (e_dup2 dX10_addNote_127 (e_iald dX10_addNote_128 (kd10_1 h_a) (by decide) (by decide) (e_iconst dX10_addNote_129 (k4 rfl) (e_iadd dX10_addNote_130 (e_iast dX10_addNote_131 (kd10_1 h_a) (by decide) (by decide) k)))))))) ?_
            refine ev_letR (fun R20 eR20 => ?_)
            exact ev_ret (e_aload_n dX10_addNote_132 rfl (i := 0) (x := a) rfl (e_getr dX10_addNote_133 flX10_7 (kd10_0 h_a) rfl (rf10_0_0 h_a) (e_bipush dX10_addNote_136 rfl (k4 rfl) (e_iald dX10_addNote_138 (kd10_1 h_a) (by decide) (by decide) (e_iconst dX10_addNote_139 (k4 rfl) (e_isub dX10_addNote_140 (e_iret dX10_addNote_141)))))))
        · exact ev_ret (e_iconst dX10_addNote_47 (k4 rfl) (e_iret dX10_addNote_48))
      · exact ev_ret (e_iconst dX10_addNote_47 (k4 rfl) (e_iret dX10_addNote_48))
    · exact ev_ret (e_iconst dX10_addNote_47 (k4 rfl) (e_iret dX10_addNote_48))
  · exact ev_ret (e_iconst dX10_addNote_47 (k4 rfl) (e_iret dX10_addNote_48))
def lp_X10_removeNote_43 (a : Nat) : Nat → Int → xN → (Int → xN → Option (Int × xN)) → Option (Int × xN)
  | 0, _, _, _ => none
  | n + 1, y2, R, X =>
    if (w4 (38 + (w4 (4 * (R (a + 1) 37))))) ≤ y2 then
    X y2 R
    else
    if 0 ≤ (w4 (y2 + 4)) ∧ (w4 (y2 + 4)) < 464 then
    if 0 ≤ y2 ∧ y2 < 464 then
    xlet (xup R (a + 1) (y2).toNat (R (a + 1) ((w4 (y2 + 4))).toNat)) (fun R9 =>
    xlet (w4 (y2 + 1)) (fun x10 =>
    lp_X10_removeNote_43 a n x10 R9 X))
    else none
    else none
def f_X10_removeNote (a : Nat) (i0 : Int) (R : xN) : Option (Int × xN) :=
  (f_X10_in i0 0 (w4 ((R (a + 1) 37) - 1)) R).bind (fun v1 =>
  if v1 = true then
  (f_X10_act a R).bind (fun v3 =>
  xlet (xup v3 (a + 1) 37 (w4 ((v3 (a + 1) 37) - 1))) (fun R4 =>
  xlet (w4 (38 + (w4 (4 * i0)))) (fun x5 =>
  lp_X10_removeNote_43 a 6000 x5 R4 (fun z11 R12 =>
  some ((R12 (a + 1) 37), R12)))))
  else
  some ((-1), R))
set_option maxRecDepth 20000 in
set_option maxHeartbeats 4000000 in
theorem lc_X10_removeNote_43 {l : Launch} {g : xG} {d : Nat} {A : xA} {a : Nat} (h_a : sh 10 A a)  {X : Int → xN → Option (Int × xN)} (hX : ∀ (y2 : Int) (R : xN), Ev l g (d + 2) mX10_removeNote 79 [xR a, xU, xU] [] A R (fun v : Int × xN => some (xI v.1)) (fun v => v.2) (X y2 R)) (n : Nat) (y2 : Int) (R : xN) : Ev l g (d + 2) mX10_removeNote 43 [xR a, xU, xI y2] [] A R (fun v : Int × xN => some (xI v.1)) (fun v => v.2) (lp_X10_removeNote_43 a n y2 R X) := by
  induction n generalizing y2 R with
  | zero => exact ev_none
  | succ n ih =>
    rw [lp_X10_removeNote_43]
    refine ev_st (pc' := 56) (L' := [xR a, xU, xI y2]) (st' := [xI (w4 (38 + (w4 (4 * (R (a + 1) 37))))), xI y2]) (fun _ _ _ k => e_iload_n dX10_removeNote_43 rfl (i := 2) (x := y2) rfl (e_bipush dX10_removeNote_44 rfl (k4 rfl) (e_iconst dX10_removeNote_46 (k4 rfl) (e_aload_n dX10_removeNote_47 rfl (i := 0) (x := a) rfl (e_getr dX10_removeNote_48 flX10_7 (kd10_0 h_a) rfl (rf10_0_0 h_a) (e_bipush dX10_removeNote_51 rfl (k4 rfl) (e_iald dX10_removeNote_53 (kd10_1 h_a) (by decide) (by decide) (e_imul dX10_removeNote_54 (e_iadd dX10_removeNote_55 k))))))))) ?_
    refine ev_br2 (P := (w4 (38 + (w4 (4 * (R (a + 1) 37))))) ≤ y2) (pct := 79) (pcf := 59) (st' := []) (fun _ _ _ kt kf => e_cge dX10_removeNote_56 (tgt := 79) rfl kt kf) (fun h6 => ?_) (fun h6 => ?_)
    · refine ev_st (pc' := 79) (L' := [xR a, xU, xU]) (st' := []) (fun _ _ _ k => e_fg [2] k) ?_
      exact hX y2 R
    · refine ev_st (pc' := 71) (L' := [xR a, xU, xI y2]) (st' := [xI (w4 (y2 + 4)), xR (a + 1), xI y2, xR (a + 1)]) (fun _ _ _ k => e_aload_n dX10_removeNote_59 rfl (i := 0) (x := a) rfl (e_getr dX10_removeNote_60 flX10_7 (kd10_0 h_a) rfl (rf10_0_0 h_a) (e_iload_n dX10_removeNote_63 rfl (i := 2) (x := y2) rfl (e_aload_n dX10_removeNote_64 rfl (i := 0) (x := a) rfl (e_getr dX10_removeNote_65 flX10_7 (kd10_0 h_a) rfl (rf10_0_0 h_a) (e_iload_n dX10_removeNote_68 rfl (i := 2) (x := y2) rfl (e_iconst dX10_removeNote_69 (k4 rfl) (e_iadd dX10_removeNote_70 k)))))))) ?_
      refine ev_chk (fun h7 => ?_)
      refine ev_st (pc' := 72) (L' := [xR a, xU, xI y2]) (st' := [xI (R (a + 1) ((w4 (y2 + 4))).toNat), xI y2, xR (a + 1)]) (fun _ _ _ k => e_iald dX10_removeNote_71 (kd10_1 h_a) h7.1 h7.2 k) ?_
      refine ev_chk (fun h8 => ?_)
      refine ev_st (pc' := 73) (L' := [xR a, xU, xI y2]) (st' := []) (fun _ _ _ k => e_iast dX10_removeNote_72 (kd10_1 h_a) h8.1 h8.2 k) ?_
      refine ev_letR (fun R9 eR9 => ?_)
      refine ev_letx (fun x10 ex10 => ?_)
      refine ev_st (pc' := 76) (L' := [xR a, xU, xI x10]) (st' := []) (fun _ _ _ k => e_iinc dX10_removeNote_73 (i := 2) rfl (x := y2) rfl (y := x10) ex10 (L' := [xR a, xU, xI x10]) rfl k) ?_
      refine ev_st (pc' := 43) (L' := [xR a, xU, xI x10]) (st' := []) (fun _ _ _ k => e_goto dX10_removeNote_76 (tgt := 43) rfl k) ?_
      exact ih x10 R9
set_option maxRecDepth 20000 in
set_option maxHeartbeats 4000000 in
theorem c_X10_removeNote {l : Launch} {g : xG} {d : Nat} {A : xA} {R : xN} {a : Nat} (h_a : sh 10 A a) (i0 : Int) : Ev l g (d + 2) mX10_removeNote 0 [xR a, xI i0, xU] [] A R (fun v : Int × xN => some (xI v.1)) (fun v => v.2) (f_X10_removeNote a i0 R) := by
  rw [f_X10_removeNote]
  refine ev_st (pc' := 13) (L' := [xR a, xI i0, xU]) (st' := [xL (w4 ((R (a + 1) 37) - 1)), xL 0, xL i0]) (fun _ _ _ k => e_iload_n dX10_removeNote_0 rfl (i := 1) (x := i0) rfl (e_i2l dX10_removeNote_1 (e_lconst dX10_removeNote_2 (i := 0) rfl (k8 rfl) (e_aload_n dX10_removeNote_3 rfl (i := 0) (x := a) rfl (e_getr dX10_removeNote_4 flX10_7 (kd10_0 h_a) rfl (rf10_0_0 h_a) (e_bipush dX10_removeNote_7 rfl (k4 rfl) (e_iald dX10_removeNote_9 (kd10_1 h_a) (by decide) (by decide) (e_iconst dX10_removeNote_10 (k4 rfl) (e_isub dX10_removeNote_11 (e_i2l dX10_removeNote_12 k)))))))))) ?_
  refine ev_callS (As := [xL i0, xL 0, xL (w4 ((R (a + 1) 37) - 1))]) (st := []) (fun v1 => [xI (xz v1)]) dX10_removeNote_13 mlX10_101 rfl rfl rfl rfl rfl rfl (c_X10_in (d := d + 1) i0 0 (w4 ((R (a + 1) 37) - 1))) (fun _ => xz01 _) (fun _ => rfl) (fun v1 => ?_)
  refine ev_br2 (P := v1 = true) (pct := 21) (pcf := 19) (st' := []) (fun _ _ _ kt kf => e_ifnez dX10_removeNote_16 (tgt := 21) rfl kt kf) (fun h2 => ?_) (fun h2 => ?_)
  · refine ev_st (pc' := 22) (L' := [xR a, xI i0, xU]) (st' := [xR a]) (fun _ _ _ k => e_aload_n dX10_removeNote_21 rfl (i := 0) (x := a) rfl k) ?_
    refine ev_callV (As := []) (st := []) (fun v3 => []) dX10_removeNote_22 mlX10_139 (kd10_0 h_a) rfl rfl rfl rfl rfl rfl (c_X10_act (d := d) h_a) (fun _ => trivial) (fun _ => rfl) (fun v3 => ?_)
    refine ev_st (pc' := 36) (L' := [xR a, xI i0, xU]) (st' := []) (fun _ _ _ k => e_aload_n dX10_removeNote_25 rfl (i := 0) (x := a) rfl (e_getr dX10_removeNote_26 flX10_7 (kd10_0 h_a) rfl (rf10_0_0 h_a) (e_bipush dX10_removeNote_29 rfl (k4 rfl) (e_dup2 dX10_removeNote_31 (e_iald dX10_removeNote_32 (kd10_1 h_a) (by decide) (by decide) (e_iconst dX10_removeNote_33 (k4 rfl) (e_isub dX10_removeNote_34 (e_iast dX10_removeNote_35 (kd10_1 h_a) (by decide) (by decide) k)))))))) ?_
    refine ev_letR (fun R4 eR4 => ?_)
    refine ev_st (pc' := 42) (L' := [xR a, xI i0, xU]) (st' := [xI (w4 (38 + (w4 (4 * i0))))]) (fun _ _ _ k => e_bipush dX10_removeNote_36 rfl (k4 rfl) (e_iconst dX10_removeNote_38 (k4 rfl) (e_iload_n dX10_removeNote_39 rfl (i := 1) (x := i0) rfl (e_imul dX10_removeNote_40 (e_iadd dX10_removeNote_41 k))))) ?_
    refine ev_leti (fun x5 ex5 => ?_)
    refine ev_st (pc' := 43) (L' := [xR a, xI i0, xI x5]) (st' := []) (fun _ _ _ k => e_istore_n dX10_removeNote_42 rfl (i := 2) rfl (L' := [xR a, xI i0, xI x5]) rfl k) ?_
    refine ev_st (pc' := 43) (L' := [xR a, xU, xI x5]) (st' := []) (fun _ _ _ k => e_fg [1] k) ?_
    refine lc_X10_removeNote_43 h_a (fun z11 R12 => ?_) 6000 x5 R4
    exact ev_ret (e_aload_n dX10_removeNote_79 rfl (i := 0) (x := a) rfl (e_getr dX10_removeNote_80 flX10_7 (kd10_0 h_a) rfl (rf10_0_0 h_a) (e_bipush dX10_removeNote_83 rfl (k4 rfl) (e_iald dX10_removeNote_85 (kd10_1 h_a) (by decide) (by decide) (e_iret dX10_removeNote_86)))))
  · exact ev_ret (e_iconst dX10_removeNote_19 (k4 rfl) (e_iret dX10_removeNote_20))
def f_X10_setLines (a : Nat) (i0 : Int) (R : xN) : Option (Int × xN) :=
  (f_X10_in i0 1 9 R).bind (fun v1 =>
  if v1 = true then
  (f_X10_act a R).bind (fun v3 =>
  xlet (v3 (a + 1) 11) (fun x4 =>
  xlet (xup v3 (a + 1) 11 i0) (fun R5 =>
  some (x4, R5))))
  else
  some ((-1), R))
set_option maxRecDepth 20000 in
set_option maxHeartbeats 4000000 in
theorem c_X10_setLines {l : Launch} {g : xG} {d : Nat} {A : xA} {R : xN} {a : Nat} (h_a : sh 10 A a) (i0 : Int) : Ev l g (d + 2) mX10_setLines 0 [xR a, xI i0, xU] [] A R (fun v : Int × xN => some (xI v.1)) (fun v => v.2) (f_X10_setLines a i0 R) := by
  rw [f_X10_setLines]
  refine ev_st (pc' := 6) (L' := [xR a, xI i0, xU]) (st' := [xL 9, xL 1, xL i0]) (fun _ _ _ k => e_iload_n dX10_setLines_0 rfl (i := 1) (x := i0) rfl (e_i2l dX10_setLines_1 (e_lconst dX10_setLines_2 (i := 1) rfl (k8 rfl) (e_ldc2 dX10_setLines_3 ckX10_168 (k8 rfl) k)))) ?_
  refine ev_callS (As := [xL i0, xL 1, xL 9]) (st := []) (fun v1 => [xI (xz v1)]) dX10_setLines_6 mlX10_101 rfl rfl rfl rfl rfl rfl (c_X10_in (d := d + 1) i0 1 9) (fun _ => xz01 _) (fun _ => rfl) (fun v1 => ?_)
  refine ev_br2 (P := v1 = true) (pct := 14) (pcf := 12) (st' := []) (fun _ _ _ kt kf => e_ifnez dX10_setLines_9 (tgt := 14) rfl kt kf) (fun h2 => ?_) (fun h2 => ?_)
  · refine ev_st (pc' := 15) (L' := [xR a, xI i0, xU]) (st' := [xR a]) (fun _ _ _ k => e_aload_n dX10_setLines_14 rfl (i := 0) (x := a) rfl k) ?_
    refine ev_callV (As := []) (st := []) (fun v3 => []) dX10_setLines_15 mlX10_139 (kd10_0 h_a) rfl rfl rfl rfl rfl rfl (c_X10_act (d := d) h_a) (fun _ => trivial) (fun _ => rfl) (fun v3 => ?_)
    refine ev_st (pc' := 25) (L' := [xR a, xI i0, xU]) (st' := [xI (v3 (a + 1) 11)]) (fun _ _ _ k => e_aload_n dX10_setLines_18 rfl (i := 0) (x := a) rfl (e_getr dX10_setLines_19 flX10_7 (kd10_0 h_a) rfl (rf10_0_0 h_a) (e_bipush dX10_setLines_22 rfl (k4 rfl) (e_iald dX10_setLines_24 (kd10_1 h_a) (by decide) (by decide) k)))) ?_
    refine ev_leti (fun x4 ex4 => ?_)
    refine ev_st (pc' := 26) (L' := [xR a, xI i0, xI x4]) (st' := []) (fun _ _ _ k => e_istore_n dX10_setLines_25 rfl (i := 2) rfl (L' := [xR a, xI i0, xI x4]) rfl k) ?_
    refine ev_st (pc' := 34) (L' := [xR a, xI i0, xI x4]) (st' := []) (fun _ _ _ k => e_aload_n dX10_setLines_26 rfl (i := 0) (x := a) rfl (e_getr dX10_setLines_27 flX10_7 (kd10_0 h_a) rfl (rf10_0_0 h_a) (e_bipush dX10_setLines_30 rfl (k4 rfl) (e_iload_n dX10_setLines_32 rfl (i := 1) (x := i0) rfl (e_iast dX10_setLines_33 (kd10_1 h_a) (by decide) (by decide) k))))) ?_
    refine ev_letR (fun R5 eR5 => ?_)
    exact ev_ret (e_iload_n dX10_setLines_34 rfl (i := 2) (x := x4) rfl (e_iret dX10_setLines_35))
  · exact ev_ret (e_iconst dX10_setLines_12 (k4 rfl) (e_iret dX10_setLines_13))
def lp_X10_take_29 (a : Nat) (p1 : Int) : Nat → Int → xN → (Int → xN → Option (Int × xN)) → Option (Int × xN)
  | 0, _, _, _ => none
  | n + 1, y2, R, X =>
    if 154 ≤ y2 then
    X y2 R
    else
    if 0 ≤ y2 ∧ y2 < 464 then
    if 0 ≤ (w4 ((w4 (156 + (w4 (154 * p1)))) + y2)) ∧ (w4 ((w4 (156 + (w4 (154 * p1)))) + y2)) < 464 then
    xlet (xup R (a + 1) ((w4 ((w4 (156 + (w4 (154 * p1)))) + y2))).toNat (R (a + 1) (y2).toNat)) (fun R9 =>
    xlet (w4 (y2 + 1)) (fun x10 =>
    lp_X10_take_29 a p1 n x10 R9 X))
    else none
    else none
def f_X10_take (a : Nat) (i0 : Int) (R : xN) : Option (Int × xN) :=
  (f_X10_in i0 0 1 R).bind (fun v1 =>
  if v1 = true then
  (f_X10_act a R).bind (fun v3 =>
  if 0 ≤ (w4 (154 + i0)) ∧ (w4 (154 + i0)) < 464 then
  xlet (xup v3 (a + 1) ((w4 (154 + i0))).toNat 1) (fun R5 =>
  lp_X10_take_29 a i0 6000 0 R5 (fun z11 R12 =>
  some ((R12 (a + 1) 2), R12)))
  else none)
  else
  some ((-1), R))
set_option maxRecDepth 20000 in
set_option maxHeartbeats 4000000 in
theorem lc_X10_take_29 {l : Launch} {g : xG} {d : Nat} {A : xA} {a : Nat} (h_a : sh 10 A a) (p1 : Int) {X : Int → xN → Option (Int × xN)} (hX : ∀ (y2 : Int) (R : xN), Ev l g (d + 2) mX10_take 64 [xR a, xU, xU] [] A R (fun v : Int × xN => some (xI v.1)) (fun v => v.2) (X y2 R)) (n : Nat) (y2 : Int) (R : xN) : Ev l g (d + 2) mX10_take 29 [xR a, xI p1, xI y2] [] A R (fun v : Int × xN => some (xI v.1)) (fun v => v.2) (lp_X10_take_29 a p1 n y2 R X) := by
  induction n generalizing y2 R with
  | zero => exact ev_none
  | succ n ih =>
    rw [lp_X10_take_29]
    refine ev_st (pc' := 33) (L' := [xR a, xI p1, xI y2]) (st' := [xI 154, xI y2]) (fun _ _ _ k => e_iload_n dX10_take_29 rfl (i := 2) (x := y2) rfl (e_sipush dX10_take_30 rfl (k4 rfl) k)) ?_
    refine ev_br2 (P := 154 ≤ y2) (pct := 64) (pcf := 36) (st' := []) (fun _ _ _ kt kf => e_cge dX10_take_33 (tgt := 64) rfl kt kf) (fun h6 => ?_) (fun h6 => ?_)
    · refine ev_st (pc' := 64) (L' := [xR a, xU, xU]) (st' := []) (fun _ _ _ k => e_fg [1, 2] k) ?_
      exact hX y2 R
    · refine ev_st (pc' := 56) (L' := [xR a, xI p1, xI y2]) (st' := [xI y2, xR (a + 1), xI (w4 ((w4 (156 + (w4 (154 * p1)))) + y2)), xR (a + 1)]) (fun _ _ _ k => e_aload_n dX10_take_36 rfl (i := 0) (x := a) rfl (e_getr dX10_take_37 flX10_7 (kd10_0 h_a) rfl (rf10_0_0 h_a) (e_sipush dX10_take_40 rfl (k4 rfl) (e_sipush dX10_take_43 rfl (k4 rfl) (e_iload_n dX10_take_46 rfl (i := 1) (x := p1) rfl (e_imul dX10_take_47 (e_iadd dX10_take_48 (e_iload_n dX10_take_49 rfl (i := 2) (x := y2) rfl (e_iadd dX10_take_50 (e_aload_n dX10_take_51 rfl (i := 0) (x := a) rfl (e_getr dX10_take_52 flX10_7 (kd10_0 h_a) rfl (rf10_0_0 h_a) (e_iload_n dX10_take_55 rfl (i := 2) (x := y2) rfl k)))))))))))) ?_
      refine ev_chk (fun h7 => ?_)
      refine ev_st (pc' := 57) (L' := [xR a, xI p1, xI y2]) (st' := [xI (R (a + 1) (y2).toNat), xI (w4 ((w4 (156 + (w4 (154 * p1)))) + y2)), xR (a + 1)]) (fun _ _ _ k => e_iald dX10_take_56 (kd10_1 h_a) h7.1 h7.2 k) ?_
      refine ev_chk (fun h8 => ?_)
      refine ev_st (pc' := 58) (L' := [xR a, xI p1, xI y2]) (st' := []) (fun _ _ _ k => e_iast dX10_take_57 (kd10_1 h_a) h8.1 h8.2 k) ?_
      refine ev_letR (fun R9 eR9 => ?_)
      refine ev_letx (fun x10 ex10 => ?_)
      refine ev_st (pc' := 61) (L' := [xR a, xI p1, xI x10]) (st' := []) (fun _ _ _ k => e_iinc dX10_take_58 (i := 2) rfl (x := y2) rfl (y := x10) ex10 (L' := [xR a, xI p1, xI x10]) rfl k) ?_
      refine ev_st (pc' := 29) (L' := [xR a, xI p1, xI x10]) (st' := []) (fun _ _ _ k => e_goto dX10_take_61 (tgt := 29) rfl k) ?_
      exact ih x10 R9
set_option maxRecDepth 20000 in
set_option maxHeartbeats 4000000 in
theorem c_X10_take {l : Launch} {g : xG} {d : Nat} {A : xA} {R : xN} {a : Nat} (h_a : sh 10 A a) (i0 : Int) : Ev l g (d + 2) mX10_take 0 [xR a, xI i0, xU] [] A R (fun v : Int × xN => some (xI v.1)) (fun v => v.2) (f_X10_take a i0 R) := by
  rw [f_X10_take]
  refine ev_st (pc' := 4) (L' := [xR a, xI i0, xU]) (st' := [xL 1, xL 0, xL i0]) (fun _ _ _ k => e_iload_n dX10_take_0 rfl (i := 1) (x := i0) rfl (e_i2l dX10_take_1 (e_lconst dX10_take_2 (i := 0) rfl (k8 rfl) (e_lconst dX10_take_3 (i := 1) rfl (k8 rfl) k)))) ?_
  refine ev_callS (As := [xL i0, xL 0, xL 1]) (st := []) (fun v1 => [xI (xz v1)]) dX10_take_4 mlX10_101 rfl rfl rfl rfl rfl rfl (c_X10_in (d := d + 1) i0 0 1) (fun _ => xz01 _) (fun _ => rfl) (fun v1 => ?_)
  refine ev_br2 (P := v1 = true) (pct := 12) (pcf := 10) (st' := []) (fun _ _ _ kt kf => e_ifnez dX10_take_7 (tgt := 12) rfl kt kf) (fun h2 => ?_) (fun h2 => ?_)
  · refine ev_st (pc' := 13) (L' := [xR a, xI i0, xU]) (st' := [xR a]) (fun _ _ _ k => e_aload_n dX10_take_12 rfl (i := 0) (x := a) rfl k) ?_
    refine ev_callV (As := []) (st := []) (fun v3 => []) dX10_take_13 mlX10_139 (kd10_0 h_a) rfl rfl rfl rfl rfl rfl (c_X10_act (d := d) h_a) (fun _ => trivial) (fun _ => rfl) (fun v3 => ?_)
    refine ev_st (pc' := 26) (L' := [xR a, xI i0, xU]) (st' := [xI 1, xI (w4 (154 + i0)), xR (a + 1)]) (fun _ _ _ k => e_aload_n dX10_take_16 rfl (i := 0) (x := a) rfl (e_getr dX10_take_17 flX10_7 (kd10_0 h_a) rfl (rf10_0_0 h_a) (e_sipush dX10_take_20 rfl (k4 rfl) (e_iload_n dX10_take_23 rfl (i := 1) (x := i0) rfl (e_iadd dX10_take_24 (e_iconst dX10_take_25 (k4 rfl) k)))))) ?_
    refine ev_chk (fun h4 => ?_)
    refine ev_st (pc' := 27) (L' := [xR a, xI i0, xU]) (st' := []) (fun _ _ _ k => e_iast dX10_take_26 (kd10_1 h_a) h4.1 h4.2 k) ?_
    refine ev_letR (fun R5 eR5 => ?_)
    refine ev_st (pc' := 29) (L' := [xR a, xI i0, xI 0]) (st' := []) (fun _ _ _ k => e_iconst dX10_take_27 (k4 rfl) (e_istore_n dX10_take_28 rfl (i := 2) rfl (L' := [xR a, xI i0, xI 0]) rfl k)) ?_
    refine lc_X10_take_29 h_a i0 (fun z11 R12 => ?_) 6000 0 R5
    exact ev_ret (e_aload_n dX10_take_64 rfl (i := 0) (x := a) rfl (e_getr dX10_take_65 flX10_7 (kd10_0 h_a) rfl (rf10_0_0 h_a) (e_iconst dX10_take_68 (k4 rfl) (e_iald dX10_take_69 (kd10_1 h_a) (by decide) (by decide) (e_iret dX10_take_70)))))
  · exact ev_ret (e_iconst dX10_take_10 (k4 rfl) (e_iret dX10_take_11))
def lp_X10_restore_34 (a : Nat) (p1 : Int) : Nat → Int → xN → (Int → xN → Option (Int × xN)) → Option (Int × xN)
  | 0, _, _, _ => none
  | n + 1, y2, R, X =>
    if 154 ≤ y2 then
    X y2 R
    else
    if 0 ≤ (w4 ((w4 (156 + (w4 (154 * p1)))) + y2)) ∧ (w4 ((w4 (156 + (w4 (154 * p1)))) + y2)) < 464 then
    if 0 ≤ y2 ∧ y2 < 464 then
    xlet (xup R (a + 1) (y2).toNat (R (a + 1) ((w4 ((w4 (156 + (w4 (154 * p1)))) + y2))).toNat)) (fun R9 =>
    xlet (w4 (y2 + 1)) (fun x10 =>
    lp_X10_restore_34 a p1 n x10 R9 X))
    else none
    else none
def f_X10_restore (a : Nat) (i0 : Int) (R : xN) : Option (Int × xN) :=
  (f_X10_in i0 0 1 R).bind (fun v1 =>
  if v1 = true then
  if 0 ≤ (w4 (154 + i0)) ∧ (w4 (154 + i0)) < 464 then
  if (R (a + 1) ((w4 (154 + i0))).toNat) = 0 then
  some ((-2), R)
  else
  (f_X10_act a R).bind (fun v5 =>
  lp_X10_restore_34 a i0 6000 0 v5 (fun z11 R12 =>
  some ((R12 (a + 1) 2), R12)))
  else none
  else
  some ((-1), R))
set_option maxRecDepth 20000 in
set_option maxHeartbeats 4000000 in
theorem lc_X10_restore_34 {l : Launch} {g : xG} {d : Nat} {A : xA} {a : Nat} (h_a : sh 10 A a) (p1 : Int) {X : Int → xN → Option (Int × xN)} (hX : ∀ (y2 : Int) (R : xN), Ev l g (d + 2) mX10_restore 69 [xR a, xU, xU] [] A R (fun v : Int × xN => some (xI v.1)) (fun v => v.2) (X y2 R)) (n : Nat) (y2 : Int) (R : xN) : Ev l g (d + 2) mX10_restore 34 [xR a, xI p1, xI y2] [] A R (fun v : Int × xN => some (xI v.1)) (fun v => v.2) (lp_X10_restore_34 a p1 n y2 R X) := by
  induction n generalizing y2 R with
  | zero => exact ev_none
  | succ n ih =>
    rw [lp_X10_restore_34]
    refine ev_st (pc' := 38) (L' := [xR a, xI p1, xI y2]) (st' := [xI 154, xI y2]) (fun _ _ _ k => e_iload_n dX10_restore_34 rfl (i := 2) (x := y2) rfl (e_sipush dX10_restore_35 rfl (k4 rfl) k)) ?_
    refine ev_br2 (P := 154 ≤ y2) (pct := 69) (pcf := 41) (st' := []) (fun _ _ _ kt kf => e_cge dX10_restore_38 (tgt := 69) rfl kt kf) (fun h6 => ?_) (fun h6 => ?_)
    · refine ev_st (pc' := 69) (L' := [xR a, xU, xU]) (st' := []) (fun _ _ _ k => e_fg [1, 2] k) ?_
      exact hX y2 R
    · refine ev_st (pc' := 61) (L' := [xR a, xI p1, xI y2]) (st' := [xI (w4 ((w4 (156 + (w4 (154 * p1)))) + y2)), xR (a + 1), xI y2, xR (a + 1)]) (fun _ _ _ k => e_aload_n dX10_restore_41 rfl (i := 0) (x := a) rfl (e_getr dX10_restore_42 flX10_7 (kd10_0 h_a) rfl (rf10_0_0 h_a) (e_iload_n dX10_restore_45 rfl (i := 2) (x := y2) rfl (e_aload_n dX10_restore_46 rfl (i := 0) (x := a) rfl (e_getr dX10_restore_47 flX10_7 (kd10_0 h_a) rfl (rf10_0_0 h_a) (e_sipush dX10_restore_50 rfl (k4 rfl) (e_sipush dX10_restore_53 rfl (k4 rfl) (e_iload_n dX10_restore_56 rfl (i := 1) (x := p1) rfl (e_imul dX10_restore_57 (e_iadd dX10_restore_58 (e_iload_n dX10_restore_59 rfl (i := 2) (x := y2) rfl (e_iadd dX10_restore_60 k)))))))))))) ?_
      refine ev_chk (fun h7 => ?_)
      refine ev_st (pc' := 62) (L' := [xR a, xI p1, xI y2]) (st' := [xI (R (a + 1) ((w4 ((w4 (156 + (w4 (154 * p1)))) + y2))).toNat), xI y2, xR (a + 1)]) (fun _ _ _ k => e_iald dX10_restore_61 (kd10_1 h_a) h7.1 h7.2 k) ?_
      refine ev_chk (fun h8 => ?_)
      refine ev_st (pc' := 63) (L' := [xR a, xI p1, xI y2]) (st' := []) (fun _ _ _ k => e_iast dX10_restore_62 (kd10_1 h_a) h8.1 h8.2 k) ?_
      refine ev_letR (fun R9 eR9 => ?_)
      refine ev_letx (fun x10 ex10 => ?_)
      refine ev_st (pc' := 66) (L' := [xR a, xI p1, xI x10]) (st' := []) (fun _ _ _ k => e_iinc dX10_restore_63 (i := 2) rfl (x := y2) rfl (y := x10) ex10 (L' := [xR a, xI p1, xI x10]) rfl k) ?_
      refine ev_st (pc' := 34) (L' := [xR a, xI p1, xI x10]) (st' := []) (fun _ _ _ k => e_goto dX10_restore_66 (tgt := 34) rfl k) ?_
      exact ih x10 R9
set_option maxRecDepth 20000 in
set_option maxHeartbeats 4000000 in
theorem c_X10_restore {l : Launch} {g : xG} {d : Nat} {A : xA} {R : xN} {a : Nat} (h_a : sh 10 A a) (i0 : Int) : Ev l g (d + 2) mX10_restore 0 [xR a, xI i0, xU] [] A R (fun v : Int × xN => some (xI v.1)) (fun v => v.2) (f_X10_restore a i0 R) := by
  rw [f_X10_restore]
  refine ev_st (pc' := 4) (L' := [xR a, xI i0, xU]) (st' := [xL 1, xL 0, xL i0]) (fun _ _ _ k => e_iload_n dX10_restore_0 rfl (i := 1) (x := i0) rfl (e_i2l dX10_restore_1 (e_lconst dX10_restore_2 (i := 0) rfl (k8 rfl) (e_lconst dX10_restore_3 (i := 1) rfl (k8 rfl) k)))) ?_
  refine ev_callS (As := [xL i0, xL 0, xL 1]) (st := []) (fun v1 => [xI (xz v1)]) dX10_restore_4 mlX10_101 rfl rfl rfl rfl rfl rfl (c_X10_in (d := d + 1) i0 0 1) (fun _ => xz01 _) (fun _ => rfl) (fun v1 => ?_)
  refine ev_br2 (P := v1 = true) (pct := 12) (pcf := 10) (st' := []) (fun _ _ _ kt kf => e_ifnez dX10_restore_7 (tgt := 12) rfl kt kf) (fun h2 => ?_) (fun h2 => ?_)
  · refine ev_st (pc' := 21) (L' := [xR a, xI i0, xU]) (st' := [xI (w4 (154 + i0)), xR (a + 1)]) (fun _ _ _ k => e_aload_n dX10_restore_12 rfl (i := 0) (x := a) rfl (e_getr dX10_restore_13 flX10_7 (kd10_0 h_a) rfl (rf10_0_0 h_a) (e_sipush dX10_restore_16 rfl (k4 rfl) (e_iload_n dX10_restore_19 rfl (i := 1) (x := i0) rfl (e_iadd dX10_restore_20 k))))) ?_
    refine ev_chk (fun h3 => ?_)
    refine ev_st (pc' := 22) (L' := [xR a, xI i0, xU]) (st' := [xI (R (a + 1) ((w4 (154 + i0))).toNat)]) (fun _ _ _ k => e_iald dX10_restore_21 (kd10_1 h_a) h3.1 h3.2 k) ?_
    refine ev_br2 (P := (R (a + 1) ((w4 (154 + i0))).toNat) = 0) (pct := 25) (pcf := 28) (st' := []) (fun _ _ _ kt kf => e_ifne dX10_restore_22 (tgt := 28) rfl kt kf) (fun h4 => ?_) (fun h4 => ?_)
    · exact ev_ret (e_bipush dX10_restore_25 rfl (k4 rfl) (e_iret dX10_restore_27))
    · refine ev_st (pc' := 29) (L' := [xR a, xI i0, xU]) (st' := [xR a]) (fun _ _ _ k => e_aload_n dX10_restore_28 rfl (i := 0) (x := a) rfl k) ?_
      refine ev_callV (As := []) (st := []) (fun v5 => []) dX10_restore_29 mlX10_139 (kd10_0 h_a) rfl rfl rfl rfl rfl rfl (c_X10_act (d := d) h_a) (fun _ => trivial) (fun _ => rfl) (fun v5 => ?_)
      refine ev_st (pc' := 34) (L' := [xR a, xI i0, xI 0]) (st' := []) (fun _ _ _ k => e_iconst dX10_restore_32 (k4 rfl) (e_istore_n dX10_restore_33 rfl (i := 2) rfl (L' := [xR a, xI i0, xI 0]) rfl k)) ?_
      refine lc_X10_restore_34 h_a i0 (fun z11 R12 => ?_) 6000 0 v5
      exact ev_ret (e_aload_n dX10_restore_69 rfl (i := 0) (x := a) rfl (e_getr dX10_restore_70 flX10_7 (kd10_0 h_a) rfl (rf10_0_0 h_a) (e_iconst dX10_restore_73 (k4 rfl) (e_iald dX10_restore_74 (kd10_1 h_a) (by decide) (by decide) (e_iret dX10_restore_75)))))
  · exact ev_ret (e_iconst dX10_restore_10 (k4 rfl) (e_iret dX10_restore_11))
def lp_X10_undo_22 (a : Nat) : Nat → Int → xN → (Int → xN → Option (Int × xN)) → Option (Int × xN)
  | 0, _, _, _ => none
  | n + 1, y1, R, X =>
    if 464 ≤ y1 then
    X y1 R
    else
    if 0 ≤ (w4 ((w4 (464 * (R a 3))) + y1)) ∧ (w4 ((w4 (464 * (R a 3))) + y1)) < 2320 then
    if 0 ≤ y1 ∧ y1 < 464 then
    xlet (xup R (a + 1) (y1).toNat (R (a + 2) ((w4 ((w4 (464 * (R a 3))) + y1))).toNat)) (fun R6 =>
    xlet (w4 (y1 + 1)) (fun x7 =>
    lp_X10_undo_22 a n x7 R6 X))
    else none
    else none
def f_X10_undo (a : Nat) (R : xN) : Option (Int × xN) :=
  if (R a 3) = 0 then
  some ((-2), R)
  else
  xlet (xup R a 3 (w4 ((R a 3) - 1))) (fun R2 =>
  lp_X10_undo_22 a 6000 0 R2 (fun z8 R9 =>
  some ((R9 a 3), R9)))
set_option maxRecDepth 20000 in
set_option maxHeartbeats 4000000 in
theorem lc_X10_undo_22 {l : Launch} {g : xG} {d : Nat} {A : xA} {a : Nat} (h_a : sh 10 A a)  {X : Int → xN → Option (Int × xN)} (hX : ∀ (y1 : Int) (R : xN), Ev l g (d) mX10_undo 56 [xR a, xU] [] A R (fun v : Int × xN => some (xI v.1)) (fun v => v.2) (X y1 R)) (n : Nat) (y1 : Int) (R : xN) : Ev l g (d) mX10_undo 22 [xR a, xI y1] [] A R (fun v : Int × xN => some (xI v.1)) (fun v => v.2) (lp_X10_undo_22 a n y1 R X) := by
  induction n generalizing y1 R with
  | zero => exact ev_none
  | succ n ih =>
    rw [lp_X10_undo_22]
    refine ev_st (pc' := 26) (L' := [xR a, xI y1]) (st' := [xI 464, xI y1]) (fun _ _ _ k => e_iload_n dX10_undo_22 rfl (i := 1) (x := y1) rfl (e_sipush dX10_undo_23 rfl (k4 rfl) k)) ?_
    refine ev_br2 (P := 464 ≤ y1) (pct := 56) (pcf := 29) (st' := []) (fun _ _ _ kt kf => e_cge dX10_undo_26 (tgt := 56) rfl kt kf) (fun h3 => ?_) (fun h3 => ?_)
    · refine ev_st (pc' := 56) (L' := [xR a, xU]) (st' := []) (fun _ _ _ k => e_fg [1] k) ?_
      exact hX y1 R
    · refine ev_st (pc' := 48) (L' := [xR a, xI y1]) (st' := [xI (w4 ((w4 (464 * (R a 3))) + y1)), xR (a + 2), xI y1, xR (a + 1)]) (fun _ _ _ k => e_aload_n dX10_undo_29 rfl (i := 0) (x := a) rfl (e_getr dX10_undo_30 flX10_7 (kd10_0 h_a) rfl (rf10_0_0 h_a) (e_iload_n dX10_undo_33 rfl (i := 1) (x := y1) rfl (e_aload_n dX10_undo_34 rfl (i := 0) (x := a) rfl (e_getr dX10_undo_35 flX10_13 (kd10_0 h_a) rfl (rf10_0_1 h_a) (e_sipush dX10_undo_38 rfl (k4 rfl) (e_aload_n dX10_undo_41 rfl (i := 0) (x := a) rfl (e_geti dX10_undo_42 flX10_61 (kd10_0 h_a) (Or.inl rfl) (e_imul dX10_undo_45 (e_iload_n dX10_undo_46 rfl (i := 1) (x := y1) rfl (e_iadd dX10_undo_47 k))))))))))) ?_
      refine ev_chk (fun h4 => ?_)
      refine ev_st (pc' := 49) (L' := [xR a, xI y1]) (st' := [xI (R (a + 2) ((w4 ((w4 (464 * (R a 3))) + y1))).toNat), xI y1, xR (a + 1)]) (fun _ _ _ k => e_iald dX10_undo_48 (kd10_2 h_a) h4.1 h4.2 k) ?_
      refine ev_chk (fun h5 => ?_)
      refine ev_st (pc' := 50) (L' := [xR a, xI y1]) (st' := []) (fun _ _ _ k => e_iast dX10_undo_49 (kd10_1 h_a) h5.1 h5.2 k) ?_
      refine ev_letR (fun R6 eR6 => ?_)
      refine ev_letx (fun x7 ex7 => ?_)
      refine ev_st (pc' := 53) (L' := [xR a, xI x7]) (st' := []) (fun _ _ _ k => e_iinc dX10_undo_50 (i := 1) rfl (x := y1) rfl (y := x7) ex7 (L' := [xR a, xI x7]) rfl k) ?_
      refine ev_st (pc' := 22) (L' := [xR a, xI x7]) (st' := []) (fun _ _ _ k => e_goto dX10_undo_53 (tgt := 22) rfl k) ?_
      exact ih x7 R6
set_option maxRecDepth 20000 in
set_option maxHeartbeats 4000000 in
theorem c_X10_undo {l : Launch} {g : xG} {d : Nat} {A : xA} {R : xN} {a : Nat} (h_a : sh 10 A a)  : Ev l g (d) mX10_undo 0 [xR a, xU] [] A R (fun v : Int × xN => some (xI v.1)) (fun v => v.2) (f_X10_undo a R) := by
  rw [f_X10_undo]
  refine ev_st (pc' := 4) (L' := [xR a, xU]) (st' := [xI (R a 3)]) (fun _ _ _ k => e_aload_n dX10_undo_0 rfl (i := 0) (x := a) rfl (e_geti dX10_undo_1 flX10_61 (kd10_0 h_a) (Or.inl rfl) k)) ?_
  refine ev_br2 (P := (R a 3) = 0) (pct := 7) (pcf := 10) (st' := []) (fun _ _ _ kt kf => e_ifne dX10_undo_4 (tgt := 10) rfl kt kf) (fun h1 => ?_) (fun h1 => ?_)
  · exact ev_ret (e_bipush dX10_undo_7 rfl (k4 rfl) (e_iret dX10_undo_9))
  · refine ev_st (pc' := 20) (L' := [xR a, xU]) (st' := []) (fun _ _ _ k => e_aload_n dX10_undo_10 rfl (i := 0) (x := a) rfl (e_dupR dX10_undo_11 (e_geti dX10_undo_12 flX10_61 (kd10_0 h_a) (Or.inl rfl) (e_iconst dX10_undo_15 (k4 rfl) (e_isub dX10_undo_16 (e_puti dX10_undo_17 flX10_61 (kd10_0 h_a) (Or.inl rfl) rfl k)))))) ?_
    refine ev_letR (fun R2 eR2 => ?_)
    refine ev_st (pc' := 22) (L' := [xR a, xI 0]) (st' := []) (fun _ _ _ k => e_iconst dX10_undo_20 (k4 rfl) (e_istore_n dX10_undo_21 rfl (i := 1) rfl (L' := [xR a, xI 0]) rfl k)) ?_
    refine lc_X10_undo_22 h_a (fun z8 R9 => ?_) 6000 0 R2
    exact ev_ret (e_aload_n dX10_undo_56 rfl (i := 0) (x := a) rfl (e_geti dX10_undo_57 flX10_61 (kd10_0 h_a) (Or.inl rfl) (e_iret dX10_undo_60)))
def f_X10_append (a : Nat) (i0 : Int) (R : xN) : Option (Int × xN) :=
  (f_X10_in i0 1 255 R).bind (fun v1 =>
  if v1 = true then
  if (R a 4) = 120 then
  some ((-3), R)
  else
  if 0 ≤ (R a 4) ∧ (R a 4) < 120 then
  xlet (xup R (a + 4) ((R a 4)).toNat i0) (fun R5 =>
  xlet (xup R5 a 4 (w4 ((R5 a 4) + 1))) (fun R6 =>
  some ((R6 a 4), R6)))
  else none
  else
  some ((-1), R))
set_option maxRecDepth 20000 in
set_option maxHeartbeats 4000000 in
theorem c_X10_append {l : Launch} {g : xG} {d : Nat} {A : xA} {R : xN} {a : Nat} (h_a : sh 10 A a) (i0 : Int) : Ev l g (d + 1) mX10_append 0 [xR a, xI i0] [] A R (fun v : Int × xN => some (xI v.1)) (fun v => v.2) (f_X10_append a i0 R) := by
  rw [f_X10_append]
  refine ev_st (pc' := 6) (L' := [xR a, xI i0]) (st' := [xL 255, xL 1, xL i0]) (fun _ _ _ k => e_iload_n dX10_append_0 rfl (i := 1) (x := i0) rfl (e_i2l dX10_append_1 (e_lconst dX10_append_2 (i := 1) rfl (k8 rfl) (e_ldc2 dX10_append_3 ckX10_179 (k8 rfl) k)))) ?_
  refine ev_callS (As := [xL i0, xL 1, xL 255]) (st := []) (fun v1 => [xI (xz v1)]) dX10_append_6 mlX10_101 rfl rfl rfl rfl rfl rfl (c_X10_in (d := d) i0 1 255) (fun _ => xz01 _) (fun _ => rfl) (fun v1 => ?_)
  refine ev_br2 (P := v1 = true) (pct := 14) (pcf := 12) (st' := []) (fun _ _ _ kt kf => e_ifnez dX10_append_9 (tgt := 14) rfl kt kf) (fun h2 => ?_) (fun h2 => ?_)
  · refine ev_st (pc' := 20) (L' := [xR a, xI i0]) (st' := [xI 120, xI (R a 4)]) (fun _ _ _ k => e_aload_n dX10_append_14 rfl (i := 0) (x := a) rfl (e_geti dX10_append_15 flX10_181 (kd10_0 h_a) (Or.inl rfl) (e_bipush dX10_append_18 rfl (k4 rfl) k))) ?_
    refine ev_br2 (P := (R a 4) = 120) (pct := 23) (pcf := 26) (st' := []) (fun _ _ _ kt kf => e_cne dX10_append_20 (tgt := 26) rfl kt kf) (fun h3 => ?_) (fun h3 => ?_)
    · exact ev_ret (e_bipush dX10_append_23 rfl (k4 rfl) (e_iret dX10_append_25))
    · refine ev_st (pc' := 35) (L' := [xR a, xI i0]) (st' := [xI i0, xI (R a 4), xR (a + 4)]) (fun _ _ _ k => e_aload_n dX10_append_26 rfl (i := 0) (x := a) rfl (e_getr dX10_append_27 flX10_19 (kd10_0 h_a) rfl (rf10_0_5 h_a) (e_aload_n dX10_append_30 rfl (i := 0) (x := a) rfl (e_geti dX10_append_31 flX10_181 (kd10_0 h_a) (Or.inl rfl) (e_iload_n dX10_append_34 rfl (i := 1) (x := i0) rfl k))))) ?_
      refine ev_chk (fun h4 => ?_)
      refine ev_st (pc' := 36) (L' := [xR a, xI i0]) (st' := []) (fun _ _ _ k => e_iast dX10_append_35 (kd10_4 h_a) h4.1 h4.2 k) ?_
      refine ev_letR (fun R5 eR5 => ?_)
      refine ev_st (pc' := 46) (L' := [xR a, xI i0]) (st' := []) (fun _ _ _ k => e_aload_n dX10_append_36 rfl (i := 0) (x := a) rfl (e_dupR dX10_append_37 (e_geti dX10_append_38 flX10_181 (kd10_0 h_a) (Or.inl rfl) (e_iconst dX10_append_41 (k4 rfl) (e_iadd dX10_append_42 (e_puti dX10_append_43 flX10_181 (kd10_0 h_a) (Or.inl rfl) rfl k)))))) ?_
      refine ev_letR (fun R6 eR6 => ?_)
      exact ev_ret (e_aload_n dX10_append_46 rfl (i := 0) (x := a) rfl (e_geti dX10_append_47 flX10_181 (kd10_0 h_a) (Or.inl rfl) (e_iret dX10_append_50)))
  · exact ev_ret (e_iconst dX10_append_12 (k4 rfl) (e_iret dX10_append_13))
def f_X10_clearText (a : Nat) (R : xN) : Option (Int × xN) :=
  xlet (R a 4) (fun x1 =>
  xlet (xup R a 4 0) (fun R2 =>
  some (x1, R2)))
set_option maxRecDepth 20000 in
set_option maxHeartbeats 4000000 in
theorem c_X10_clearText {l : Launch} {g : xG} {d : Nat} {A : xA} {R : xN} {a : Nat} (h_a : sh 10 A a)  : Ev l g (d) mX10_clearText 0 [xR a, xU] [] A R (fun v : Int × xN => some (xI v.1)) (fun v => v.2) (f_X10_clearText a R) := by
  rw [f_X10_clearText]
  refine ev_st (pc' := 4) (L' := [xR a, xU]) (st' := [xI (R a 4)]) (fun _ _ _ k => e_aload_n dX10_clearText_0 rfl (i := 0) (x := a) rfl (e_geti dX10_clearText_1 flX10_181 (kd10_0 h_a) (Or.inl rfl) k)) ?_
  refine ev_leti (fun x1 ex1 => ?_)
  refine ev_st (pc' := 5) (L' := [xR a, xI x1]) (st' := []) (fun _ _ _ k => e_istore_n dX10_clearText_4 rfl (i := 1) rfl (L' := [xR a, xI x1]) rfl k) ?_
  refine ev_st (pc' := 10) (L' := [xR a, xI x1]) (st' := []) (fun _ _ _ k => e_aload_n dX10_clearText_5 rfl (i := 0) (x := a) rfl (e_iconst dX10_clearText_6 (k4 rfl) (e_puti dX10_clearText_7 flX10_181 (kd10_0 h_a) (Or.inl rfl) rfl k))) ?_
  refine ev_letR (fun R2 eR2 => ?_)
  exact ev_ret (e_iload_n dX10_clearText_10 rfl (i := 1) (x := x1) rfl (e_iret dX10_clearText_11))
def f_X10_isLetter (i0 : Int) (R : xN) : Option (Bool) :=
  (f_X10_in i0 97 122 R).bind (fun v1 =>
  some v1)
set_option maxRecDepth 20000 in
set_option maxHeartbeats 4000000 in
theorem c_X10_isLetter {l : Launch} {g : xG} {d : Nat} {A : xA} {R : xN}  (i0 : Int) : Ev l g (d + 1) mX10_isLetter 0 [xI i0] [] A R (fun v : Bool => some (xI (xz v))) (fun _ => R) (f_X10_isLetter i0 R) := by
  rw [f_X10_isLetter]
  refine ev_st (pc' := 8) (L' := [xI i0]) (st' := [xL 122, xL 97, xL i0]) (fun _ _ _ k => e_iload_n dX10_isLetter_0 rfl (i := 0) (x := i0) rfl (e_i2l dX10_isLetter_1 (e_ldc2 dX10_isLetter_2 ckX10_184 (k8 rfl) (e_ldc2 dX10_isLetter_5 ckX10_186 (k8 rfl) k)))) ?_
  refine ev_callS (As := [xL i0, xL 97, xL 122]) (st := []) (fun v1 => [xI (xz v1)]) dX10_isLetter_8 mlX10_101 rfl rfl rfl rfl rfl rfl (c_X10_in (d := d) i0 97 122) (fun _ => xz01 _) (fun _ => rfl) (fun v1 => ?_)
  exact ev_ret (e_iret dX10_isLetter_11)
def f_X10_isFigure (i0 : Int) (R : xN) : Option (Bool) :=
  (f_X10_in i0 48 57 R).bind (fun v1 =>
  some v1)
set_option maxRecDepth 20000 in
set_option maxHeartbeats 4000000 in
theorem c_X10_isFigure {l : Launch} {g : xG} {d : Nat} {A : xA} {R : xN}  (i0 : Int) : Ev l g (d + 1) mX10_isFigure 0 [xI i0] [] A R (fun v : Bool => some (xI (xz v))) (fun _ => R) (f_X10_isFigure i0 R) := by
  rw [f_X10_isFigure]
  refine ev_st (pc' := 8) (L' := [xI i0]) (st' := [xL 57, xL 48, xL i0]) (fun _ _ _ k => e_iload_n dX10_isFigure_0 rfl (i := 0) (x := i0) rfl (e_i2l dX10_isFigure_1 (e_ldc2 dX10_isFigure_2 ckX10_188 (k8 rfl) (e_ldc2 dX10_isFigure_5 ckX10_190 (k8 rfl) k)))) ?_
  refine ev_callS (As := [xL i0, xL 48, xL 57]) (st := []) (fun v1 => [xI (xz v1)]) dX10_isFigure_8 mlX10_101 rfl rfl rfl rfl rfl rfl (c_X10_in (d := d) i0 48 57) (fun _ => xz01 _) (fun _ => rfl) (fun v1 => ?_)
  exact ev_ret (e_iret dX10_isFigure_11)
def lp_X10_readWord_7 (a : Nat) : Nat → Int → xN → (Int → xN → Option (xN)) → Option (xN)
  | 0, _, _, _ => none
  | n + 1, y1, R, X =>
    if (R a 4) ≤ (R a 18) then
    X y1 R
    else
    if 0 ≤ (R a 18) ∧ (R a 18) < 120 then
    (f_X10_isLetter (R (a + 4) ((R a 18)).toNat) R).bind (fun v4 =>
    if v4 = true then
    if 11 ≤ y1 then
    xlet (xup R a 21 0) (fun R7 =>
    xlet (xup R7 a 18 (w4 ((R7 a 18) + 1))) (fun R8 =>
    xlet (w4 (y1 + 1)) (fun x9 =>
    lp_X10_readWord_7 a n x9 R8 X)))
    else
    if 0 ≤ (R a 18) ∧ (R a 18) < 120 then
    xlet (xup R a 21 (w8 ((w8 ((w8 (32 * (R a 21))) + (R (a + 4) ((R a 18)).toNat))) - 96))) (fun R11 =>
    xlet (xup R11 a 18 (w4 ((R11 a 18) + 1))) (fun R12 =>
    xlet (w4 (y1 + 1)) (fun x13 =>
    lp_X10_readWord_7 a n x13 R12 X)))
    else none
    else
    X y1 R)
    else none
def f_X10_readWord (a : Nat) (R : xN) : Option (xN) :=
  xlet (xup R a 21 0) (fun R1 =>
  lp_X10_readWord_7 a 6000 0 R1 (fun z14 R15 =>
  xlet (xup R15 a 20 1) (fun R16 =>
  some R16)))
set_option maxRecDepth 20000 in
set_option maxHeartbeats 4000000 in
theorem lc_X10_readWord_7 {l : Launch} {g : xG} {d : Nat} {A : xA} {a : Nat} (h_a : sh 10 A a)  {X : Int → xN → Option (xN)} (hX : ∀ (y1 : Int) (R : xN), Ev l g (d + 2) mX10_readWord 86 [xR a, xU] [] A R (fun _ : xN => none) (fun v => v) (X y1 R)) (n : Nat) (y1 : Int) (R : xN) : Ev l g (d + 2) mX10_readWord 7 [xR a, xI y1] [] A R (fun _ : xN => none) (fun v => v) (lp_X10_readWord_7 a n y1 R X) := by
  induction n generalizing y1 R with
  | zero => exact ev_none
  | succ n ih =>
    rw [lp_X10_readWord_7]
    refine ev_st (pc' := 15) (L' := [xR a, xI y1]) (st' := [xI (R a 4), xI (R a 18)]) (fun _ _ _ k => e_aload_n dX10_readWord_7 rfl (i := 0) (x := a) rfl (e_geti dX10_readWord_8 flX10_196 (kd10_0 h_a) (Or.inl rfl) (e_aload_n dX10_readWord_11 rfl (i := 0) (x := a) rfl (e_geti dX10_readWord_12 flX10_181 (kd10_0 h_a) (Or.inl rfl) k)))) ?_
    refine ev_br2 (P := (R a 4) ≤ (R a 18)) (pct := 86) (pcf := 18) (st' := []) (fun _ _ _ kt kf => e_cge dX10_readWord_15 (tgt := 86) rfl kt kf) (fun h2 => ?_) (fun h2 => ?_)
    · refine ev_st (pc' := 86) (L' := [xR a, xU]) (st' := []) (fun _ _ _ k => e_fg [1] k) ?_
      exact hX y1 R
    · refine ev_st (pc' := 26) (L' := [xR a, xI y1]) (st' := [xI (R a 18), xR (a + 4)]) (fun _ _ _ k => e_aload_n dX10_readWord_18 rfl (i := 0) (x := a) rfl (e_getr dX10_readWord_19 flX10_19 (kd10_0 h_a) rfl (rf10_0_5 h_a) (e_aload_n dX10_readWord_22 rfl (i := 0) (x := a) rfl (e_geti dX10_readWord_23 flX10_196 (kd10_0 h_a) (Or.inl rfl) k)))) ?_
      refine ev_chk (fun h3 => ?_)
      refine ev_st (pc' := 27) (L' := [xR a, xI y1]) (st' := [xI (R (a + 4) ((R a 18)).toNat)]) (fun _ _ _ k => e_iald dX10_readWord_26 (kd10_4 h_a) h3.1 h3.2 k) ?_
      refine ev_callS (As := [xI (R (a + 4) ((R a 18)).toNat)]) (st := []) (fun v4 => [xI (xz v4)]) dX10_readWord_27 mlX10_199 rfl rfl rfl rfl rfl rfl (c_X10_isLetter (d := d) (R (a + 4) ((R a 18)).toNat)) (fun _ => xz01 _) (fun _ => rfl) (fun v4 => ?_)
      refine ev_br2 (P := v4 = true) (pct := 33) (pcf := 86) (st' := []) (fun _ _ _ kt kf => e_ifeqz dX10_readWord_30 (tgt := 86) rfl kt kf) (fun h5 => ?_) (fun h5 => ?_)
      · refine ev_st (pc' := 37) (L' := [xR a, xI y1]) (st' := [xI 11, xI y1, xR a]) (fun _ _ _ k => e_aload_n dX10_readWord_33 rfl (i := 0) (x := a) rfl (e_iload_n dX10_readWord_34 rfl (i := 1) (x := y1) rfl (e_bipush dX10_readWord_35 rfl (k4 rfl) k))) ?_
        refine ev_br2 (P := 11 ≤ y1) (pct := 66) (pcf := 40) (st' := [xR a]) (fun _ _ _ kt kf => e_cge dX10_readWord_37 (tgt := 66) rfl kt kf) (fun h6 => ?_) (fun h6 => ?_)
        · refine ev_st (pc' := 70) (L' := [xR a, xI y1]) (st' := []) (fun _ _ _ k => e_lconst dX10_readWord_66 (i := 0) rfl (k8 rfl) (e_putl dX10_readWord_67 flX10_192 (kd10_0 h_a) (Or.inl rfl) rfl k)) ?_
          refine ev_letR (fun R7 eR7 => ?_)
          refine ev_st (pc' := 80) (L' := [xR a, xI y1]) (st' := []) (fun _ _ _ k => e_aload_n dX10_readWord_70 rfl (i := 0) (x := a) rfl (e_dupR dX10_readWord_71 (e_geti dX10_readWord_72 flX10_196 (kd10_0 h_a) (Or.inl rfl) (e_iconst dX10_readWord_75 (k4 rfl) (e_iadd dX10_readWord_76 (e_puti dX10_readWord_77 flX10_196 (kd10_0 h_a) (Or.inl rfl) rfl k)))))) ?_
          refine ev_letR (fun R8 eR8 => ?_)
          refine ev_letx (fun x9 ex9 => ?_)
          refine ev_st (pc' := 83) (L' := [xR a, xI x9]) (st' := []) (fun _ _ _ k => e_iinc dX10_readWord_80 (i := 1) rfl (x := y1) rfl (y := x9) ex9 (L' := [xR a, xI x9]) rfl k) ?_
          refine ev_st (pc' := 7) (L' := [xR a, xI x9]) (st' := []) (fun _ _ _ k => e_goto dX10_readWord_83 (tgt := 7) rfl k) ?_
          exact ih x9 R8
        · refine ev_st (pc' := 56) (L' := [xR a, xI y1]) (st' := [xI (R a 18), xR (a + 4), xL (w8 (32 * (R a 21))), xR a]) (fun _ _ _ k => e_ldc2 dX10_readWord_40 ckX10_202 (k8 rfl) (e_aload_n dX10_readWord_43 rfl (i := 0) (x := a) rfl (e_getl dX10_readWord_44 flX10_192 (kd10_0 h_a) rfl (e_lmul dX10_readWord_47 (e_aload_n dX10_readWord_48 rfl (i := 0) (x := a) rfl (e_getr dX10_readWord_49 flX10_19 (kd10_0 h_a) rfl (rf10_0_5 h_a) (e_aload_n dX10_readWord_52 rfl (i := 0) (x := a) rfl (e_geti dX10_readWord_53 flX10_196 (kd10_0 h_a) (Or.inl rfl) k)))))))) ?_
          refine ev_chk (fun h10 => ?_)
          refine ev_st (pc' := 57) (L' := [xR a, xI y1]) (st' := [xI (R (a + 4) ((R a 18)).toNat), xL (w8 (32 * (R a 21))), xR a]) (fun _ _ _ k => e_iald dX10_readWord_56 (kd10_4 h_a) h10.1 h10.2 k) ?_
          refine ev_st (pc' := 70) (L' := [xR a, xI y1]) (st' := []) (fun _ _ _ k => e_i2l dX10_readWord_57 (e_ladd dX10_readWord_58 (e_ldc2 dX10_readWord_59 ckX10_204 (k8 rfl) (e_lsub dX10_readWord_62 (e_goto dX10_readWord_63 (tgt := 67) rfl (e_putl dX10_readWord_67 flX10_192 (kd10_0 h_a) (Or.inl rfl) rfl k)))))) ?_
          refine ev_letR (fun R11 eR11 => ?_)
          refine ev_st (pc' := 80) (L' := [xR a, xI y1]) (st' := []) (fun _ _ _ k => e_aload_n dX10_readWord_70 rfl (i := 0) (x := a) rfl (e_dupR dX10_readWord_71 (e_geti dX10_readWord_72 flX10_196 (kd10_0 h_a) (Or.inl rfl) (e_iconst dX10_readWord_75 (k4 rfl) (e_iadd dX10_readWord_76 (e_puti dX10_readWord_77 flX10_196 (kd10_0 h_a) (Or.inl rfl) rfl k)))))) ?_
          refine ev_letR (fun R12 eR12 => ?_)
          refine ev_letx (fun x13 ex13 => ?_)
          refine ev_st (pc' := 83) (L' := [xR a, xI x13]) (st' := []) (fun _ _ _ k => e_iinc dX10_readWord_80 (i := 1) rfl (x := y1) rfl (y := x13) ex13 (L' := [xR a, xI x13]) rfl k) ?_
          refine ev_st (pc' := 7) (L' := [xR a, xI x13]) (st' := []) (fun _ _ _ k => e_goto dX10_readWord_83 (tgt := 7) rfl k) ?_
          exact ih x13 R12
      · refine ev_st (pc' := 86) (L' := [xR a, xU]) (st' := []) (fun _ _ _ k => e_fg [1] k) ?_
        exact hX y1 R
set_option maxRecDepth 20000 in
set_option maxHeartbeats 4000000 in
theorem c_X10_readWord {l : Launch} {g : xG} {d : Nat} {A : xA} {R : xN} {a : Nat} (h_a : sh 10 A a)  : Ev l g (d + 2) mX10_readWord 0 [xR a, xU] [] A R (fun _ : xN => none) (fun v => v) (f_X10_readWord a R) := by
  rw [f_X10_readWord]
  refine ev_st (pc' := 5) (L' := [xR a, xU]) (st' := []) (fun _ _ _ k => e_aload_n dX10_readWord_0 rfl (i := 0) (x := a) rfl (e_lconst dX10_readWord_1 (i := 0) rfl (k8 rfl) (e_putl dX10_readWord_2 flX10_192 (kd10_0 h_a) (Or.inl rfl) rfl k))) ?_
  refine ev_letR (fun R1 eR1 => ?_)
  refine ev_st (pc' := 7) (L' := [xR a, xI 0]) (st' := []) (fun _ _ _ k => e_iconst dX10_readWord_5 (k4 rfl) (e_istore_n dX10_readWord_6 rfl (i := 1) rfl (L' := [xR a, xI 0]) rfl k)) ?_
  refine lc_X10_readWord_7 h_a (fun z14 R15 => ?_) 6000 0 R1
  refine ev_st (pc' := 91) (L' := [xR a, xU]) (st' := []) (fun _ _ _ k => e_aload_n dX10_readWord_86 rfl (i := 0) (x := a) rfl (e_iconst dX10_readWord_87 (k4 rfl) (e_puti dX10_readWord_88 flX10_206 (kd10_0 h_a) (Or.inl rfl) rfl k))) ?_
  refine ev_letR (fun R16 eR16 => ?_)
  exact ev_ret (e_vret dX10_readWord_91)
def lp_X10_readNumber_7 (a : Nat) : Nat → Int → xN → (Int → xN → Option (xN)) → Option (xN)
  | 0, _, _, _ => none
  | n + 1, y1, R, X =>
    if (R a 4) ≤ (R a 18) then
    X y1 R
    else
    if 0 ≤ (R a 18) ∧ (R a 18) < 120 then
    (f_X10_isFigure (R (a + 4) ((R a 18)).toNat) R).bind (fun v4 =>
    if v4 = true then
    if 4 ≤ y1 then
    xlet (xup R a 22 (R a 22)) (fun R7 =>
    xlet (w4 (y1 + 1)) (fun x8 =>
    xlet (xup R7 a 18 (w4 ((R7 a 18) + 1))) (fun R9 =>
    lp_X10_readNumber_7 a n x8 R9 X)))
    else
    if 0 ≤ (R a 18) ∧ (R a 18) < 120 then
    xlet (xup R a 22 (w4 ((w4 ((w4 (10 * (R a 22))) + (R (a + 4) ((R a 18)).toNat))) - 48))) (fun R11 =>
    xlet (w4 (y1 + 1)) (fun x12 =>
    xlet (xup R11 a 18 (w4 ((R11 a 18) + 1))) (fun R13 =>
    lp_X10_readNumber_7 a n x12 R13 X)))
    else none
    else
    X y1 R)
    else none
def f_X10_readNumber (a : Nat) (R : xN) : Option (xN) :=
  xlet (xup R a 22 0) (fun R1 =>
  lp_X10_readNumber_7 a 6000 0 R1 (fun z14 R15 =>
  if 5 ≤ z14 then
  xlet (xup R15 a 20 4) (fun R17 =>
  some R17)
  else
  if z14 = 1 then
  xlet (xup R15 a 20 2) (fun R19 =>
  some R19)
  else
  if 0 ≤ (R15 a 19) ∧ (R15 a 19) < 120 then
  if (R15 (a + 4) ((R15 a 19)).toNat) = 48 then
  xlet (xup R15 a 20 4) (fun R22 =>
  some R22)
  else
  xlet (xup R15 a 20 2) (fun R23 =>
  some R23)
  else none))
set_option maxRecDepth 20000 in
set_option maxHeartbeats 4000000 in
theorem lc_X10_readNumber_7 {l : Launch} {g : xG} {d : Nat} {A : xA} {a : Nat} (h_a : sh 10 A a)  {X : Int → xN → Option (xN)} (hX : ∀ (y1 : Int) (R : xN), Ev l g (d + 2) mX10_readNumber 85 [xR a, xI y1, xU] [] A R (fun _ : xN => none) (fun v => v) (X y1 R)) (n : Nat) (y1 : Int) (R : xN) : Ev l g (d + 2) mX10_readNumber 7 [xR a, xI y1, xU] [] A R (fun _ : xN => none) (fun v => v) (lp_X10_readNumber_7 a n y1 R X) := by
  induction n generalizing y1 R with
  | zero => exact ev_none
  | succ n ih =>
    rw [lp_X10_readNumber_7]
    refine ev_st (pc' := 15) (L' := [xR a, xI y1, xU]) (st' := [xI (R a 4), xI (R a 18)]) (fun _ _ _ k => e_aload_n dX10_readNumber_7 rfl (i := 0) (x := a) rfl (e_geti dX10_readNumber_8 flX10_196 (kd10_0 h_a) (Or.inl rfl) (e_aload_n dX10_readNumber_11 rfl (i := 0) (x := a) rfl (e_geti dX10_readNumber_12 flX10_181 (kd10_0 h_a) (Or.inl rfl) k)))) ?_
    refine ev_br2 (P := (R a 4) ≤ (R a 18)) (pct := 85) (pcf := 18) (st' := []) (fun _ _ _ kt kf => e_cge dX10_readNumber_15 (tgt := 85) rfl kt kf) (fun h2 => ?_) (fun h2 => ?_)
    · exact hX y1 R
    · refine ev_st (pc' := 26) (L' := [xR a, xI y1, xU]) (st' := [xI (R a 18), xR (a + 4)]) (fun _ _ _ k => e_aload_n dX10_readNumber_18 rfl (i := 0) (x := a) rfl (e_getr dX10_readNumber_19 flX10_19 (kd10_0 h_a) rfl (rf10_0_5 h_a) (e_aload_n dX10_readNumber_22 rfl (i := 0) (x := a) rfl (e_geti dX10_readNumber_23 flX10_196 (kd10_0 h_a) (Or.inl rfl) k)))) ?_
      refine ev_chk (fun h3 => ?_)
      refine ev_st (pc' := 27) (L' := [xR a, xI y1, xU]) (st' := [xI (R (a + 4) ((R a 18)).toNat)]) (fun _ _ _ k => e_iald dX10_readNumber_26 (kd10_4 h_a) h3.1 h3.2 k) ?_
      refine ev_callS (As := [xI (R (a + 4) ((R a 18)).toNat)]) (st := []) (fun v4 => [xI (xz v4)]) dX10_readNumber_27 mlX10_212 rfl rfl rfl rfl rfl rfl (c_X10_isFigure (d := d) (R (a + 4) ((R a 18)).toNat)) (fun _ => xz01 _) (fun _ => rfl) (fun v4 => ?_)
      refine ev_br2 (P := v4 = true) (pct := 33) (pcf := 85) (st' := []) (fun _ _ _ kt kf => e_ifeqz dX10_readNumber_30 (tgt := 85) rfl kt kf) (fun h5 => ?_) (fun h5 => ?_)
      · refine ev_st (pc' := 36) (L' := [xR a, xI y1, xU]) (st' := [xI 4, xI y1, xR a]) (fun _ _ _ k => e_aload_n dX10_readNumber_33 rfl (i := 0) (x := a) rfl (e_iload_n dX10_readNumber_34 rfl (i := 1) (x := y1) rfl (e_iconst dX10_readNumber_35 (k4 rfl) k))) ?_
        refine ev_br2 (P := 4 ≤ y1) (pct := 62) (pcf := 39) (st' := [xR a]) (fun _ _ _ kt kf => e_cge dX10_readNumber_36 (tgt := 62) rfl kt kf) (fun h6 => ?_) (fun h6 => ?_)
        · refine ev_st (pc' := 69) (L' := [xR a, xI y1, xU]) (st' := []) (fun _ _ _ k => e_aload_n dX10_readNumber_62 rfl (i := 0) (x := a) rfl (e_geti dX10_readNumber_63 flX10_209 (kd10_0 h_a) (Or.inl rfl) (e_puti dX10_readNumber_66 flX10_209 (kd10_0 h_a) (Or.inl rfl) rfl k))) ?_
          refine ev_letR (fun R7 eR7 => ?_)
          refine ev_letx (fun x8 ex8 => ?_)
          refine ev_st (pc' := 72) (L' := [xR a, xI x8, xU]) (st' := []) (fun _ _ _ k => e_iinc dX10_readNumber_69 (i := 1) rfl (x := y1) rfl (y := x8) ex8 (L' := [xR a, xI x8, xU]) rfl k) ?_
          refine ev_st (pc' := 82) (L' := [xR a, xI x8, xU]) (st' := []) (fun _ _ _ k => e_aload_n dX10_readNumber_72 rfl (i := 0) (x := a) rfl (e_dupR dX10_readNumber_73 (e_geti dX10_readNumber_74 flX10_196 (kd10_0 h_a) (Or.inl rfl) (e_iconst dX10_readNumber_77 (k4 rfl) (e_iadd dX10_readNumber_78 (e_puti dX10_readNumber_79 flX10_196 (kd10_0 h_a) (Or.inl rfl) rfl k)))))) ?_
          refine ev_letR (fun R9 eR9 => ?_)
          refine ev_st (pc' := 7) (L' := [xR a, xI x8, xU]) (st' := []) (fun _ _ _ k => e_goto dX10_readNumber_82 (tgt := 7) rfl k) ?_
          exact ih x8 R9
        · refine ev_st (pc' := 54) (L' := [xR a, xI y1, xU]) (st' := [xI (R a 18), xR (a + 4), xI (w4 (10 * (R a 22))), xR a]) (fun _ _ _ k => e_bipush dX10_readNumber_39 rfl (k4 rfl) (e_aload_n dX10_readNumber_41 rfl (i := 0) (x := a) rfl (e_geti dX10_readNumber_42 flX10_209 (kd10_0 h_a) (Or.inl rfl) (e_imul dX10_readNumber_45 (e_aload_n dX10_readNumber_46 rfl (i := 0) (x := a) rfl (e_getr dX10_readNumber_47 flX10_19 (kd10_0 h_a) rfl (rf10_0_5 h_a) (e_aload_n dX10_readNumber_50 rfl (i := 0) (x := a) rfl (e_geti dX10_readNumber_51 flX10_196 (kd10_0 h_a) (Or.inl rfl) k)))))))) ?_
          refine ev_chk (fun h10 => ?_)
          refine ev_st (pc' := 55) (L' := [xR a, xI y1, xU]) (st' := [xI (R (a + 4) ((R a 18)).toNat), xI (w4 (10 * (R a 22))), xR a]) (fun _ _ _ k => e_iald dX10_readNumber_54 (kd10_4 h_a) h10.1 h10.2 k) ?_
          refine ev_st (pc' := 69) (L' := [xR a, xI y1, xU]) (st' := []) (fun _ _ _ k => e_iadd dX10_readNumber_55 (e_bipush dX10_readNumber_56 rfl (k4 rfl) (e_isub dX10_readNumber_58 (e_goto dX10_readNumber_59 (tgt := 66) rfl (e_puti dX10_readNumber_66 flX10_209 (kd10_0 h_a) (Or.inl rfl) rfl k))))) ?_
          refine ev_letR (fun R11 eR11 => ?_)
          refine ev_letx (fun x12 ex12 => ?_)
          refine ev_st (pc' := 72) (L' := [xR a, xI x12, xU]) (st' := []) (fun _ _ _ k => e_iinc dX10_readNumber_69 (i := 1) rfl (x := y1) rfl (y := x12) ex12 (L' := [xR a, xI x12, xU]) rfl k) ?_
          refine ev_st (pc' := 82) (L' := [xR a, xI x12, xU]) (st' := []) (fun _ _ _ k => e_aload_n dX10_readNumber_72 rfl (i := 0) (x := a) rfl (e_dupR dX10_readNumber_73 (e_geti dX10_readNumber_74 flX10_196 (kd10_0 h_a) (Or.inl rfl) (e_iconst dX10_readNumber_77 (k4 rfl) (e_iadd dX10_readNumber_78 (e_puti dX10_readNumber_79 flX10_196 (kd10_0 h_a) (Or.inl rfl) rfl k)))))) ?_
          refine ev_letR (fun R13 eR13 => ?_)
          refine ev_st (pc' := 7) (L' := [xR a, xI x12, xU]) (st' := []) (fun _ _ _ k => e_goto dX10_readNumber_82 (tgt := 7) rfl k) ?_
          exact ih x12 R13
      · exact hX y1 R
set_option maxRecDepth 20000 in
set_option maxHeartbeats 4000000 in
theorem c_X10_readNumber {l : Launch} {g : xG} {d : Nat} {A : xA} {R : xN} {a : Nat} (h_a : sh 10 A a)  : Ev l g (d + 2) mX10_readNumber 0 [xR a, xU, xU] [] A R (fun _ : xN => none) (fun v => v) (f_X10_readNumber a R) := by
  rw [f_X10_readNumber]
  refine ev_st (pc' := 7) (L' := [xR a, xI 0, xU]) (st' := []) (fun _ _ _ k => e_iconst dX10_readNumber_0 (k4 rfl) (e_istore_n dX10_readNumber_1 rfl (i := 1) rfl (L' := [xR a, xI 0, xU]) rfl (e_aload_n dX10_readNumber_2 rfl (i := 0) (x := a) rfl (e_iconst dX10_readNumber_3 (k4 rfl) (e_puti dX10_readNumber_4 flX10_209 (kd10_0 h_a) (Or.inl rfl) rfl k))))) ?_
  refine ev_letR (fun R1 eR1 => ?_)
  refine lc_X10_readNumber_7 h_a (fun z14 R15 => ?_) 6000 0 R1
  refine ev_st (pc' := 87) (L' := [xR a, xI z14, xU]) (st' := [xI 5, xI z14]) (fun _ _ _ k => e_iload_n dX10_readNumber_85 rfl (i := 1) (x := z14) rfl (e_iconst dX10_readNumber_86 (k4 rfl) k)) ?_
  refine ev_br2 (P := 5 ≤ z14) (pct := 113) (pcf := 90) (st' := []) (fun _ _ _ kt kf => e_cge dX10_readNumber_87 (tgt := 113) rfl kt kf) (fun h16 => ?_) (fun h16 => ?_)
  · refine ev_st (pc' := 124) (L' := [xR a, xI z14, xI 0]) (st' := [xR a]) (fun _ _ _ k => e_iconst dX10_readNumber_113 (k4 rfl) (e_istore_n dX10_readNumber_114 rfl (i := 2) rfl (L' := [xR a, xI z14, xI 0]) rfl (e_aload_n dX10_readNumber_115 rfl (i := 0) (x := a) rfl (e_iload_n dX10_readNumber_116 rfl (i := 2) (x := 0) rfl (e_ifeqT dX10_readNumber_117 (tgt := 124) rfl (by decide) k))))) ?_
    refine ev_st (pc' := 128) (L' := [xR a, xI z14, xI 0]) (st' := []) (fun _ _ _ k => e_iconst dX10_readNumber_124 (k4 rfl) (e_puti dX10_readNumber_125 flX10_206 (kd10_0 h_a) (Or.inl rfl) rfl k)) ?_
    refine ev_letR (fun R17 eR17 => ?_)
    exact ev_ret (e_vret dX10_readNumber_128)
  · refine ev_st (pc' := 92) (L' := [xR a, xI z14, xU]) (st' := [xI 1, xI z14]) (fun _ _ _ k => e_iload_n dX10_readNumber_90 rfl (i := 1) (x := z14) rfl (e_iconst dX10_readNumber_91 (k4 rfl) k)) ?_
    refine ev_br2 (P := z14 = 1) (pct := 109) (pcf := 95) (st' := []) (fun _ _ _ kt kf => e_ceq dX10_readNumber_92 (tgt := 109) rfl kt kf) (fun h18 => ?_) (fun h18 => ?_)
    · refine ev_st (pc' := 120) (L' := [xR a, xI z14, xI 1]) (st' := [xR a]) (fun _ _ _ k => e_iconst dX10_readNumber_109 (k4 rfl) (e_goto dX10_readNumber_110 (tgt := 114) rfl (e_istore_n dX10_readNumber_114 rfl (i := 2) rfl (L' := [xR a, xI z14, xI 1]) rfl (e_aload_n dX10_readNumber_115 rfl (i := 0) (x := a) rfl (e_iload_n dX10_readNumber_116 rfl (i := 2) (x := 1) rfl (e_ifeqF dX10_readNumber_117 (tgt := 124) rfl (by decide) k)))))) ?_
      refine ev_st (pc' := 128) (L' := [xR a, xI z14, xI 1]) (st' := []) (fun _ _ _ k => e_iconst dX10_readNumber_120 (k4 rfl) (e_goto dX10_readNumber_121 (tgt := 125) rfl (e_puti dX10_readNumber_125 flX10_206 (kd10_0 h_a) (Or.inl rfl) rfl k))) ?_
      refine ev_letR (fun R19 eR19 => ?_)
      exact ev_ret (e_vret dX10_readNumber_128)
    · refine ev_st (pc' := 103) (L' := [xR a, xI z14, xU]) (st' := [xI (R15 a 19), xR (a + 4)]) (fun _ _ _ k => e_aload_n dX10_readNumber_95 rfl (i := 0) (x := a) rfl (e_getr dX10_readNumber_96 flX10_19 (kd10_0 h_a) rfl (rf10_0_5 h_a) (e_aload_n dX10_readNumber_99 rfl (i := 0) (x := a) rfl (e_geti dX10_readNumber_100 flX10_215 (kd10_0 h_a) (Or.inl rfl) k)))) ?_
      refine ev_chk (fun h20 => ?_)
      refine ev_st (pc' := 104) (L' := [xR a, xI z14, xU]) (st' := [xI (R15 (a + 4) ((R15 a 19)).toNat)]) (fun _ _ _ k => e_iald dX10_readNumber_103 (kd10_4 h_a) h20.1 h20.2 k) ?_
      refine ev_st (pc' := 106) (L' := [xR a, xI z14, xU]) (st' := [xI 48, xI (R15 (a + 4) ((R15 a 19)).toNat)]) (fun _ _ _ k => e_bipush dX10_readNumber_104 rfl (k4 rfl) k) ?_
      refine ev_br2 (P := (R15 (a + 4) ((R15 a 19)).toNat) = 48) (pct := 113) (pcf := 109) (st' := []) (fun _ _ _ kt kf => e_ceq dX10_readNumber_106 (tgt := 113) rfl kt kf) (fun h21 => ?_) (fun h21 => ?_)
      · refine ev_st (pc' := 124) (L' := [xR a, xI z14, xI 0]) (st' := [xR a]) (fun _ _ _ k => e_iconst dX10_readNumber_113 (k4 rfl) (e_istore_n dX10_readNumber_114 rfl (i := 2) rfl (L' := [xR a, xI z14, xI 0]) rfl (e_aload_n dX10_readNumber_115 rfl (i := 0) (x := a) rfl (e_iload_n dX10_readNumber_116 rfl (i := 2) (x := 0) rfl (e_ifeqT dX10_readNumber_117 (tgt := 124) rfl (by decide) k))))) ?_
        refine ev_st (pc' := 128) (L' := [xR a, xI z14, xI 0]) (st' := []) (fun _ _ _ k => e_iconst dX10_readNumber_124 (k4 rfl) (e_puti dX10_readNumber_125 flX10_206 (kd10_0 h_a) (Or.inl rfl) rfl k)) ?_
        refine ev_letR (fun R22 eR22 => ?_)
        exact ev_ret (e_vret dX10_readNumber_128)
      · refine ev_st (pc' := 120) (L' := [xR a, xI z14, xI 1]) (st' := [xR a]) (fun _ _ _ k => e_iconst dX10_readNumber_109 (k4 rfl) (e_goto dX10_readNumber_110 (tgt := 114) rfl (e_istore_n dX10_readNumber_114 rfl (i := 2) rfl (L' := [xR a, xI z14, xI 1]) rfl (e_aload_n dX10_readNumber_115 rfl (i := 0) (x := a) rfl (e_iload_n dX10_readNumber_116 rfl (i := 2) (x := 1) rfl (e_ifeqF dX10_readNumber_117 (tgt := 124) rfl (by decide) k)))))) ?_
        refine ev_st (pc' := 128) (L' := [xR a, xI z14, xI 1]) (st' := []) (fun _ _ _ k => e_iconst dX10_readNumber_120 (k4 rfl) (e_goto dX10_readNumber_121 (tgt := 125) rfl (e_puti dX10_readNumber_125 flX10_206 (kd10_0 h_a) (Or.inl rfl) rfl k))) ?_
        refine ev_letR (fun R23 eR23 => ?_)
        exact ev_ret (e_vret dX10_readNumber_128)
def lp_X10_next_0 (a : Nat) : Nat → xN → (xN → Option (xN)) → Option (xN)
  | 0, _, _ => none
  | n + 1, R, X =>
    if (R a 4) ≤ (R a 18) then
    X R
    else
    if 0 ≤ (R a 18) ∧ (R a 18) < 120 then
    if (R (a + 4) ((R a 18)).toNat) = 32 then
    xlet (xup R a 18 (w4 ((R a 18) + 1))) (fun R4 =>
    lp_X10_next_0 a n R4 X)
    else
    X R
    else none
def f_X10_next (a : Nat) (R : xN) : Option (xN) :=
  lp_X10_next_0 a 6000 R (fun R5 =>
  xlet (xup R5 a 19 (R5 a 18)) (fun R6 =>
  xlet (xup R6 a 21 0) (fun R7 =>
  if (R7 a 18) = (R7 a 4) then
  xlet (xup R7 a 20 0) (fun R9 =>
  some R9)
  else
  if 0 ≤ (R7 a 18) ∧ (R7 a 18) < 120 then
  (f_X10_isLetter (R7 (a + 4) ((R7 a 18)).toNat) R7).bind (fun v11 =>
  if v11 = true then
  (f_X10_readWord a R7).bind (fun v13 =>
  some v13)
  else
  if 0 ≤ (R7 a 18) ∧ (R7 a 18) < 120 then
  (f_X10_isFigure (R7 (a + 4) ((R7 a 18)).toNat) R7).bind (fun v15 =>
  if v15 = true then
  (f_X10_readNumber a R7).bind (fun v17 =>
  some v17)
  else
  if 0 ≤ (R7 a 18) ∧ (R7 a 18) < 120 then
  xlet (if (R7 (a + 4) ((R7 a 18)).toNat) = 59 then 3 else 4) (fun t19 =>
  xlet (xup R7 a 20 t19) (fun R20 =>
  xlet (xup R20 a 18 (w4 ((R20 a 18) + 1))) (fun R21 =>
  some R21)))
  else none)
  else none)
  else none)))
set_option maxRecDepth 20000 in
set_option maxHeartbeats 4000000 in
theorem lc_X10_next_0 {l : Launch} {g : xG} {d : Nat} {A : xA} {a : Nat} (h_a : sh 10 A a)  {X : xN → Option (xN)} (hX : ∀ (R : xN), Ev l g (d + 3) mX10_next 38 [xR a] [] A R (fun _ : xN => none) (fun v => v) (X R)) (n : Nat) (R : xN) : Ev l g (d + 3) mX10_next 0 [xR a] [] A R (fun _ : xN => none) (fun v => v) (lp_X10_next_0 a n R X) := by
  induction n generalizing R with
  | zero => exact ev_none
  | succ n ih =>
    rw [lp_X10_next_0]
    refine ev_st (pc' := 8) (L' := [xR a]) (st' := [xI (R a 4), xI (R a 18)]) (fun _ _ _ k => e_aload_n dX10_next_0 rfl (i := 0) (x := a) rfl (e_geti dX10_next_1 flX10_196 (kd10_0 h_a) (Or.inl rfl) (e_aload_n dX10_next_4 rfl (i := 0) (x := a) rfl (e_geti dX10_next_5 flX10_181 (kd10_0 h_a) (Or.inl rfl) k)))) ?_
    refine ev_br2 (P := (R a 4) ≤ (R a 18)) (pct := 38) (pcf := 11) (st' := []) (fun _ _ _ kt kf => e_cge dX10_next_8 (tgt := 38) rfl kt kf) (fun h1 => ?_) (fun h1 => ?_)
    · exact hX R
    · refine ev_st (pc' := 19) (L' := [xR a]) (st' := [xI (R a 18), xR (a + 4)]) (fun _ _ _ k => e_aload_n dX10_next_11 rfl (i := 0) (x := a) rfl (e_getr dX10_next_12 flX10_19 (kd10_0 h_a) rfl (rf10_0_5 h_a) (e_aload_n dX10_next_15 rfl (i := 0) (x := a) rfl (e_geti dX10_next_16 flX10_196 (kd10_0 h_a) (Or.inl rfl) k)))) ?_
      refine ev_chk (fun h2 => ?_)
      refine ev_st (pc' := 20) (L' := [xR a]) (st' := [xI (R (a + 4) ((R a 18)).toNat)]) (fun _ _ _ k => e_iald dX10_next_19 (kd10_4 h_a) h2.1 h2.2 k) ?_
      refine ev_st (pc' := 22) (L' := [xR a]) (st' := [xI 32, xI (R (a + 4) ((R a 18)).toNat)]) (fun _ _ _ k => e_bipush dX10_next_20 rfl (k4 rfl) k) ?_
      refine ev_br2 (P := (R (a + 4) ((R a 18)).toNat) = 32) (pct := 25) (pcf := 38) (st' := []) (fun _ _ _ kt kf => e_cne dX10_next_22 (tgt := 38) rfl kt kf) (fun h3 => ?_) (fun h3 => ?_)
      · refine ev_st (pc' := 35) (L' := [xR a]) (st' := []) (fun _ _ _ k => e_aload_n dX10_next_25 rfl (i := 0) (x := a) rfl (e_dupR dX10_next_26 (e_geti dX10_next_27 flX10_196 (kd10_0 h_a) (Or.inl rfl) (e_iconst dX10_next_30 (k4 rfl) (e_iadd dX10_next_31 (e_puti dX10_next_32 flX10_196 (kd10_0 h_a) (Or.inl rfl) rfl k)))))) ?_
        refine ev_letR (fun R4 eR4 => ?_)
        refine ev_st (pc' := 0) (L' := [xR a]) (st' := []) (fun _ _ _ k => e_goto dX10_next_35 (tgt := 0) rfl k) ?_
        exact ih R4
      · exact hX R
set_option maxRecDepth 20000 in
set_option maxHeartbeats 4000000 in
theorem c_X10_next {l : Launch} {g : xG} {d : Nat} {A : xA} {R : xN} {a : Nat} (h_a : sh 10 A a)  : Ev l g (d + 3) mX10_next 0 [xR a] [] A R (fun _ : xN => none) (fun v => v) (f_X10_next a R) := by
  rw [f_X10_next]
  refine lc_X10_next_0 h_a (fun R5 => ?_) 6000 R
  refine ev_st (pc' := 46) (L' := [xR a]) (st' := []) (fun _ _ _ k => e_aload_n dX10_next_38 rfl (i := 0) (x := a) rfl (e_aload_n dX10_next_39 rfl (i := 0) (x := a) rfl (e_geti dX10_next_40 flX10_196 (kd10_0 h_a) (Or.inl rfl) (e_puti dX10_next_43 flX10_215 (kd10_0 h_a) (Or.inl rfl) rfl k)))) ?_
  refine ev_letR (fun R6 eR6 => ?_)
  refine ev_st (pc' := 51) (L' := [xR a]) (st' := []) (fun _ _ _ k => e_aload_n dX10_next_46 rfl (i := 0) (x := a) rfl (e_lconst dX10_next_47 (i := 0) rfl (k8 rfl) (e_putl dX10_next_48 flX10_192 (kd10_0 h_a) (Or.inl rfl) rfl k))) ?_
  refine ev_letR (fun R7 eR7 => ?_)
  refine ev_st (pc' := 59) (L' := [xR a]) (st' := [xI (R7 a 4), xI (R7 a 18)]) (fun _ _ _ k => e_aload_n dX10_next_51 rfl (i := 0) (x := a) rfl (e_geti dX10_next_52 flX10_196 (kd10_0 h_a) (Or.inl rfl) (e_aload_n dX10_next_55 rfl (i := 0) (x := a) rfl (e_geti dX10_next_56 flX10_181 (kd10_0 h_a) (Or.inl rfl) k)))) ?_
  refine ev_br2 (P := (R7 a 18) = (R7 a 4)) (pct := 62) (pcf := 70) (st' := []) (fun _ _ _ kt kf => e_cne dX10_next_59 (tgt := 70) rfl kt kf) (fun h8 => ?_) (fun h8 => ?_)
  · refine ev_st (pc' := 67) (L' := [xR a]) (st' := []) (fun _ _ _ k => e_aload_n dX10_next_62 rfl (i := 0) (x := a) rfl (e_iconst dX10_next_63 (k4 rfl) (e_puti dX10_next_64 flX10_206 (kd10_0 h_a) (Or.inl rfl) rfl k))) ?_
    refine ev_letR (fun R9 eR9 => ?_)
    exact ev_ret (e_goto dX10_next_67 (tgt := 147) rfl (e_vret dX10_next_147))
  · refine ev_st (pc' := 78) (L' := [xR a]) (st' := [xI (R7 a 18), xR (a + 4)]) (fun _ _ _ k => e_aload_n dX10_next_70 rfl (i := 0) (x := a) rfl (e_getr dX10_next_71 flX10_19 (kd10_0 h_a) rfl (rf10_0_5 h_a) (e_aload_n dX10_next_74 rfl (i := 0) (x := a) rfl (e_geti dX10_next_75 flX10_196 (kd10_0 h_a) (Or.inl rfl) k)))) ?_
    refine ev_chk (fun h10 => ?_)
    refine ev_st (pc' := 79) (L' := [xR a]) (st' := [xI (R7 (a + 4) ((R7 a 18)).toNat)]) (fun _ _ _ k => e_iald dX10_next_78 (kd10_4 h_a) h10.1 h10.2 k) ?_
    refine ev_callS (As := [xI (R7 (a + 4) ((R7 a 18)).toNat)]) (st := []) (fun v11 => [xI (xz v11)]) dX10_next_79 mlX10_199 rfl rfl rfl rfl rfl rfl (c_X10_isLetter (d := d + 1) (R7 (a + 4) ((R7 a 18)).toNat)) (fun _ => xz01 _) (fun _ => rfl) (fun v11 => ?_)
    refine ev_br2 (P := v11 = true) (pct := 85) (pcf := 92) (st' := []) (fun _ _ _ kt kf => e_ifeqz dX10_next_82 (tgt := 92) rfl kt kf) (fun h12 => ?_) (fun h12 => ?_)
    · refine ev_st (pc' := 86) (L' := [xR a]) (st' := [xR a]) (fun _ _ _ k => e_aload_n dX10_next_85 rfl (i := 0) (x := a) rfl k) ?_
      refine ev_callV (As := []) (st := []) (fun v13 => []) dX10_next_86 mlX10_218 (kd10_0 h_a) rfl rfl rfl rfl rfl rfl (c_X10_readWord (d := d) h_a) (fun _ => trivial) (fun _ => rfl) (fun v13 => ?_)
      exact ev_ret (e_goto dX10_next_89 (tgt := 147) rfl (e_vret dX10_next_147))
    · refine ev_st (pc' := 100) (L' := [xR a]) (st' := [xI (R7 a 18), xR (a + 4)]) (fun _ _ _ k => e_aload_n dX10_next_92 rfl (i := 0) (x := a) rfl (e_getr dX10_next_93 flX10_19 (kd10_0 h_a) rfl (rf10_0_5 h_a) (e_aload_n dX10_next_96 rfl (i := 0) (x := a) rfl (e_geti dX10_next_97 flX10_196 (kd10_0 h_a) (Or.inl rfl) k)))) ?_
      refine ev_chk (fun h14 => ?_)
      refine ev_st (pc' := 101) (L' := [xR a]) (st' := [xI (R7 (a + 4) ((R7 a 18)).toNat)]) (fun _ _ _ k => e_iald dX10_next_100 (kd10_4 h_a) h14.1 h14.2 k) ?_
      refine ev_callS (As := [xI (R7 (a + 4) ((R7 a 18)).toNat)]) (st := []) (fun v15 => [xI (xz v15)]) dX10_next_101 mlX10_212 rfl rfl rfl rfl rfl rfl (c_X10_isFigure (d := d + 1) (R7 (a + 4) ((R7 a 18)).toNat)) (fun _ => xz01 _) (fun _ => rfl) (fun v15 => ?_)
      refine ev_br2 (P := v15 = true) (pct := 107) (pcf := 114) (st' := []) (fun _ _ _ kt kf => e_ifeqz dX10_next_104 (tgt := 114) rfl kt kf) (fun h16 => ?_) (fun h16 => ?_)
      · refine ev_st (pc' := 108) (L' := [xR a]) (st' := [xR a]) (fun _ _ _ k => e_aload_n dX10_next_107 rfl (i := 0) (x := a) rfl k) ?_
        refine ev_callV (As := []) (st := []) (fun v17 => []) dX10_next_108 mlX10_221 (kd10_0 h_a) rfl rfl rfl rfl rfl rfl (c_X10_readNumber (d := d) h_a) (fun _ => trivial) (fun _ => rfl) (fun v17 => ?_)
        exact ev_ret (e_goto dX10_next_111 (tgt := 147) rfl (e_vret dX10_next_147))
      · refine ev_st (pc' := 123) (L' := [xR a]) (st' := [xI (R7 a 18), xR (a + 4), xR a]) (fun _ _ _ k => e_aload_n dX10_next_114 rfl (i := 0) (x := a) rfl (e_aload_n dX10_next_115 rfl (i := 0) (x := a) rfl (e_getr dX10_next_116 flX10_19 (kd10_0 h_a) rfl (rf10_0_5 h_a) (e_aload_n dX10_next_119 rfl (i := 0) (x := a) rfl (e_geti dX10_next_120 flX10_196 (kd10_0 h_a) (Or.inl rfl) k))))) ?_
        refine ev_chk (fun h18 => ?_)
        refine ev_st (pc' := 124) (L' := [xR a]) (st' := [xI (R7 (a + 4) ((R7 a 18)).toNat), xR a]) (fun _ _ _ k => e_iald dX10_next_123 (kd10_4 h_a) h18.1 h18.2 k) ?_
        refine ev_st (pc' := 126) (L' := [xR a]) (st' := [xI 59, xI (R7 (a + 4) ((R7 a 18)).toNat), xR a]) (fun _ _ _ k => e_bipush dX10_next_124 rfl (k4 rfl) k) ?_
        refine ev_tern (P := (R7 (a + 4) ((R7 a 18)).toNat) = 59) (a := 3) (b := 4) (pct := 129) (pcf := 133) (J := 134) (st' := [xR a]) (fun _ _ _ kt kf => e_cne dX10_next_126 (tgt := 133) rfl kt kf) (fun _ _ _ k => e_iconst dX10_next_129 (k4 rfl) (e_goto dX10_next_130 (tgt := 134) rfl k)) (fun _ _ _ k => e_iconst dX10_next_133 (k4 rfl) k) (fun t19 et19 => ?_)
        refine ev_st (pc' := 137) (L' := [xR a]) (st' := []) (fun _ _ _ k => e_puti dX10_next_134 flX10_206 (kd10_0 h_a) (Or.inl rfl) rfl k) ?_
        refine ev_letR (fun R20 eR20 => ?_)
        refine ev_st (pc' := 147) (L' := [xR a]) (st' := []) (fun _ _ _ k => e_aload_n dX10_next_137 rfl (i := 0) (x := a) rfl (e_dupR dX10_next_138 (e_geti dX10_next_139 flX10_196 (kd10_0 h_a) (Or.inl rfl) (e_iconst dX10_next_142 (k4 rfl) (e_iadd dX10_next_143 (e_puti dX10_next_144 flX10_196 (kd10_0 h_a) (Or.inl rfl) rfl k)))))) ?_
        refine ev_letR (fun R21 eR21 => ?_)
        exact ev_ret (e_vret dX10_next_147)
def lp_X10_numbers_9 (a : Nat) (p1 : Int) (p2 : Int) : Nat → xN → (xN → Option (Bool × xN)) → Option (Bool × xN)
  | 0, _, _ => none
  | n + 1, R, X =>
    if (R a 20) = 2 then
    if p2 ≤ (R a 24) then
    X R
    else
    if 0 ≤ (R a 24) ∧ (R a 24) < 4 then
    xlet (xup R (a + 13) ((R a 24)).toNat (R a 22)) (fun R6 =>
    xlet (xup R6 a 24 (w4 ((R6 a 24) + 1))) (fun R7 =>
    (f_X10_next a R7).bind (fun v8 =>
    lp_X10_numbers_9 a p1 p2 n v8 X)))
    else none
    else
    X R
def f_X10_numbers (a : Nat) (i0 : Int) (i1 : Int) (R : xN) : Option (Bool × xN) :=
  xlet (xup R a 24 0) (fun R1 =>
  (f_X10_next a R1).bind (fun v2 =>
  lp_X10_numbers_9 a i0 i1 6000 v2 (fun R9 =>
  if (R9 a 24) < i0 then
  some (false, R9)
  else
  some (true, R9))))
set_option maxRecDepth 20000 in
set_option maxHeartbeats 4000000 in
theorem lc_X10_numbers_9 {l : Launch} {g : xG} {d : Nat} {A : xA} {a : Nat} (h_a : sh 10 A a) (p1 : Int) (p2 : Int) {X : xN → Option (Bool × xN)} (hX : ∀ (R : xN), Ev l g (d + 4) mX10_numbers 55 [xR a, xI p1, xU] [] A R (fun v : Bool × xN => some (xI (xz v.1))) (fun v => v.2) (X R)) (n : Nat) (R : xN) : Ev l g (d + 4) mX10_numbers 9 [xR a, xI p1, xI p2] [] A R (fun v : Bool × xN => some (xI (xz v.1))) (fun v => v.2) (lp_X10_numbers_9 a p1 p2 n R X) := by
  induction n generalizing R with
  | zero => exact ev_none
  | succ n ih =>
    rw [lp_X10_numbers_9]
    refine ev_st (pc' := 14) (L' := [xR a, xI p1, xI p2]) (st' := [xI 2, xI (R a 20)]) (fun _ _ _ k => e_aload_n dX10_numbers_9 rfl (i := 0) (x := a) rfl (e_geti dX10_numbers_10 flX10_206 (kd10_0 h_a) (Or.inl rfl) (e_iconst dX10_numbers_13 (k4 rfl) k))) ?_
    refine ev_br2 (P := (R a 20) = 2) (pct := 17) (pcf := 55) (st' := []) (fun _ _ _ kt kf => e_cne dX10_numbers_14 (tgt := 55) rfl kt kf) (fun h3 => ?_) (fun h3 => ?_)
    · refine ev_st (pc' := 22) (L' := [xR a, xI p1, xI p2]) (st' := [xI p2, xI (R a 24)]) (fun _ _ _ k => e_aload_n dX10_numbers_17 rfl (i := 0) (x := a) rfl (e_geti dX10_numbers_18 flX10_224 (kd10_0 h_a) (Or.inl rfl) (e_iload_n dX10_numbers_21 rfl (i := 2) (x := p2) rfl k))) ?_
      refine ev_br2 (P := p2 ≤ (R a 24)) (pct := 55) (pcf := 25) (st' := []) (fun _ _ _ kt kf => e_cge dX10_numbers_22 (tgt := 55) rfl kt kf) (fun h4 => ?_) (fun h4 => ?_)
      · refine ev_st (pc' := 55) (L' := [xR a, xI p1, xU]) (st' := []) (fun _ _ _ k => e_fg [2] k) ?_
        exact hX R
      · refine ev_st (pc' := 37) (L' := [xR a, xI p1, xI p2]) (st' := [xI (R a 22), xI (R a 24), xR (a + 13)]) (fun _ _ _ k => e_aload_n dX10_numbers_25 rfl (i := 0) (x := a) rfl (e_getr dX10_numbers_26 flX10_46 (kd10_0 h_a) rfl (rf10_0_23 h_a) (e_aload_n dX10_numbers_29 rfl (i := 0) (x := a) rfl (e_geti dX10_numbers_30 flX10_224 (kd10_0 h_a) (Or.inl rfl) (e_aload_n dX10_numbers_33 rfl (i := 0) (x := a) rfl (e_geti dX10_numbers_34 flX10_209 (kd10_0 h_a) (Or.inl rfl) k)))))) ?_
        refine ev_chk (fun h5 => ?_)
        refine ev_st (pc' := 38) (L' := [xR a, xI p1, xI p2]) (st' := []) (fun _ _ _ k => e_iast dX10_numbers_37 (kd10_13 h_a) h5.1 h5.2 k) ?_
        refine ev_letR (fun R6 eR6 => ?_)
        refine ev_st (pc' := 48) (L' := [xR a, xI p1, xI p2]) (st' := []) (fun _ _ _ k => e_aload_n dX10_numbers_38 rfl (i := 0) (x := a) rfl (e_dupR dX10_numbers_39 (e_geti dX10_numbers_40 flX10_224 (kd10_0 h_a) (Or.inl rfl) (e_iconst dX10_numbers_43 (k4 rfl) (e_iadd dX10_numbers_44 (e_puti dX10_numbers_45 flX10_224 (kd10_0 h_a) (Or.inl rfl) rfl k)))))) ?_
        refine ev_letR (fun R7 eR7 => ?_)
        refine ev_st (pc' := 49) (L' := [xR a, xI p1, xI p2]) (st' := [xR a]) (fun _ _ _ k => e_aload_n dX10_numbers_48 rfl (i := 0) (x := a) rfl k) ?_
        refine ev_callV (As := []) (st := []) (fun v8 => []) dX10_numbers_49 mlX10_227 (kd10_0 h_a) rfl rfl rfl rfl rfl rfl (c_X10_next (d := d) h_a) (fun _ => trivial) (fun _ => rfl) (fun v8 => ?_)
        refine ev_st (pc' := 9) (L' := [xR a, xI p1, xI p2]) (st' := []) (fun _ _ _ k => e_goto dX10_numbers_52 (tgt := 9) rfl k) ?_
        exact ih v8
    · refine ev_st (pc' := 55) (L' := [xR a, xI p1, xU]) (st' := []) (fun _ _ _ k => e_fg [2] k) ?_
      exact hX R
set_option maxRecDepth 20000 in
set_option maxHeartbeats 4000000 in
theorem c_X10_numbers {l : Launch} {g : xG} {d : Nat} {A : xA} {R : xN} {a : Nat} (h_a : sh 10 A a) (i0 : Int) (i1 : Int) : Ev l g (d + 4) mX10_numbers 0 [xR a, xI i0, xI i1] [] A R (fun v : Bool × xN => some (xI (xz v.1))) (fun v => v.2) (f_X10_numbers a i0 i1 R) := by
  rw [f_X10_numbers]
  refine ev_st (pc' := 5) (L' := [xR a, xI i0, xI i1]) (st' := []) (fun _ _ _ k => e_aload_n dX10_numbers_0 rfl (i := 0) (x := a) rfl (e_iconst dX10_numbers_1 (k4 rfl) (e_puti dX10_numbers_2 flX10_224 (kd10_0 h_a) (Or.inl rfl) rfl k))) ?_
  refine ev_letR (fun R1 eR1 => ?_)
  refine ev_st (pc' := 6) (L' := [xR a, xI i0, xI i1]) (st' := [xR a]) (fun _ _ _ k => e_aload_n dX10_numbers_5 rfl (i := 0) (x := a) rfl k) ?_
  refine ev_callV (As := []) (st := []) (fun v2 => []) dX10_numbers_6 mlX10_227 (kd10_0 h_a) rfl rfl rfl rfl rfl rfl (c_X10_next (d := d) h_a) (fun _ => trivial) (fun _ => rfl) (fun v2 => ?_)
  refine lc_X10_numbers_9 h_a i0 i1 (fun R9 => ?_) 6000 v2
  refine ev_st (pc' := 60) (L' := [xR a, xI i0, xU]) (st' := [xI i0, xI (R9 a 24)]) (fun _ _ _ k => e_aload_n dX10_numbers_55 rfl (i := 0) (x := a) rfl (e_geti dX10_numbers_56 flX10_224 (kd10_0 h_a) (Or.inl rfl) (e_iload_n dX10_numbers_59 rfl (i := 1) (x := i0) rfl k))) ?_
  refine ev_br2 (P := (R9 a 24) < i0) (pct := 67) (pcf := 63) (st' := []) (fun _ _ _ kt kf => e_clt dX10_numbers_60 (tgt := 67) rfl kt kf) (fun h10 => ?_) (fun h10 => ?_)
  · exact ev_ret (e_iconst dX10_numbers_67 (k4 rfl) (e_iret dX10_numbers_68))
  · exact ev_ret (e_iconst dX10_numbers_63 (k4 rfl) (e_goto dX10_numbers_64 (tgt := 68) rfl (e_iret dX10_numbers_68)))
def f_X10_edgeWord (a : Nat) (R : xN) : Option (Int × xN) :=
  (f_X10_next a R).bind (fun v1 =>
  if (v1 a 21) = 398548 then
  (f_X10_next a v1).bind (fun v3 =>
  some (0, v3))
  else
  if (v1 a 21) = 19176724 then
  (f_X10_next a v1).bind (fun v5 =>
  some (1, v5))
  else
  if (v1 a 21) = 20976 then
  (f_X10_next a v1).bind (fun v7 =>
  some (2, v7))
  else
  if (v1 a 21) = 83513837 then
  (f_X10_next a v1).bind (fun v9 =>
  some (3, v9))
  else
  some ((-1), v1))
set_option maxRecDepth 20000 in
set_option maxHeartbeats 4000000 in
theorem c_X10_edgeWord {l : Launch} {g : xG} {d : Nat} {A : xA} {R : xN} {a : Nat} (h_a : sh 10 A a)  : Ev l g (d + 4) mX10_edgeWord 0 [xR a, xU] [] A R (fun v : Int × xN => some (xI v.1)) (fun v => v.2) (f_X10_edgeWord a R) := by
  rw [f_X10_edgeWord]
  refine ev_st (pc' := 1) (L' := [xR a, xU]) (st' := [xR a]) (fun _ _ _ k => e_aload_n dX10_edgeWord_0 rfl (i := 0) (x := a) rfl k) ?_
  refine ev_callV (As := []) (st := []) (fun v1 => []) dX10_edgeWord_1 mlX10_227 (kd10_0 h_a) rfl rfl rfl rfl rfl rfl (c_X10_next (d := d) h_a) (fun _ => trivial) (fun _ => rfl) (fun v1 => ?_)
  refine ev_st (pc' := 11) (L' := [xR a, xU]) (st' := [xL 398548, xL (v1 a 21)]) (fun _ _ _ k => e_aload_n dX10_edgeWord_4 rfl (i := 0) (x := a) rfl (e_getl dX10_edgeWord_5 flX10_192 (kd10_0 h_a) rfl (e_ldc2 dX10_edgeWord_8 ckX10_230 (k8 rfl) k))) ?_
  refine ev_br2 (P := (v1 a 21) = 398548) (pct := 15) (pcf := 19) (st' := []) (fun _ _ _ kt kf => e_lcmp dX10_edgeWord_11 (e_lne dX10_edgeWord_12 (tgt := 19) rfl kt kf)) (fun h2 => ?_) (fun h2 => ?_)
  · refine ev_st (pc' := 70) (L' := [xR a, xI 0]) (st' := []) (fun _ _ _ k => e_iconst dX10_edgeWord_15 (k4 rfl) (e_goto dX10_edgeWord_16 (tgt := 65) rfl (e_istore_n dX10_edgeWord_65 rfl (i := 1) rfl (L' := [xR a, xI 0]) rfl (e_iload_n dX10_edgeWord_66 rfl (i := 1) (x := 0) rfl (e_ifltF dX10_edgeWord_67 (tgt := 74) rfl (by decide) k))))) ?_
    refine ev_st (pc' := 71) (L' := [xR a, xI 0]) (st' := [xR a]) (fun _ _ _ k => e_aload_n dX10_edgeWord_70 rfl (i := 0) (x := a) rfl k) ?_
    refine ev_callV (As := []) (st := []) (fun v3 => []) dX10_edgeWord_71 mlX10_227 (kd10_0 h_a) rfl rfl rfl rfl rfl rfl (c_X10_next (d := d) h_a) (fun _ => trivial) (fun _ => rfl) (fun v3 => ?_)
    exact ev_ret (e_iload_n dX10_edgeWord_74 rfl (i := 1) (x := 0) rfl (e_iret dX10_edgeWord_75))
  · refine ev_st (pc' := 26) (L' := [xR a, xU]) (st' := [xL 19176724, xL (v1 a 21)]) (fun _ _ _ k => e_aload_n dX10_edgeWord_19 rfl (i := 0) (x := a) rfl (e_getl dX10_edgeWord_20 flX10_192 (kd10_0 h_a) rfl (e_ldc2 dX10_edgeWord_23 ckX10_232 (k8 rfl) k))) ?_
    refine ev_br2 (P := (v1 a 21) = 19176724) (pct := 30) (pcf := 34) (st' := []) (fun _ _ _ kt kf => e_lcmp dX10_edgeWord_26 (e_lne dX10_edgeWord_27 (tgt := 34) rfl kt kf)) (fun h4 => ?_) (fun h4 => ?_)
    · refine ev_st (pc' := 70) (L' := [xR a, xI 1]) (st' := []) (fun _ _ _ k => e_iconst dX10_edgeWord_30 (k4 rfl) (e_goto dX10_edgeWord_31 (tgt := 65) rfl (e_istore_n dX10_edgeWord_65 rfl (i := 1) rfl (L' := [xR a, xI 1]) rfl (e_iload_n dX10_edgeWord_66 rfl (i := 1) (x := 1) rfl (e_ifltF dX10_edgeWord_67 (tgt := 74) rfl (by decide) k))))) ?_
      refine ev_st (pc' := 71) (L' := [xR a, xI 1]) (st' := [xR a]) (fun _ _ _ k => e_aload_n dX10_edgeWord_70 rfl (i := 0) (x := a) rfl k) ?_
      refine ev_callV (As := []) (st := []) (fun v5 => []) dX10_edgeWord_71 mlX10_227 (kd10_0 h_a) rfl rfl rfl rfl rfl rfl (c_X10_next (d := d) h_a) (fun _ => trivial) (fun _ => rfl) (fun v5 => ?_)
      exact ev_ret (e_iload_n dX10_edgeWord_74 rfl (i := 1) (x := 1) rfl (e_iret dX10_edgeWord_75))
    · refine ev_st (pc' := 41) (L' := [xR a, xU]) (st' := [xL 20976, xL (v1 a 21)]) (fun _ _ _ k => e_aload_n dX10_edgeWord_34 rfl (i := 0) (x := a) rfl (e_getl dX10_edgeWord_35 flX10_192 (kd10_0 h_a) rfl (e_ldc2 dX10_edgeWord_38 ckX10_234 (k8 rfl) k))) ?_
      refine ev_br2 (P := (v1 a 21) = 20976) (pct := 45) (pcf := 49) (st' := []) (fun _ _ _ kt kf => e_lcmp dX10_edgeWord_41 (e_lne dX10_edgeWord_42 (tgt := 49) rfl kt kf)) (fun h6 => ?_) (fun h6 => ?_)
      · refine ev_st (pc' := 70) (L' := [xR a, xI 2]) (st' := []) (fun _ _ _ k => e_iconst dX10_edgeWord_45 (k4 rfl) (e_goto dX10_edgeWord_46 (tgt := 65) rfl (e_istore_n dX10_edgeWord_65 rfl (i := 1) rfl (L' := [xR a, xI 2]) rfl (e_iload_n dX10_edgeWord_66 rfl (i := 1) (x := 2) rfl (e_ifltF dX10_edgeWord_67 (tgt := 74) rfl (by decide) k))))) ?_
        refine ev_st (pc' := 71) (L' := [xR a, xI 2]) (st' := [xR a]) (fun _ _ _ k => e_aload_n dX10_edgeWord_70 rfl (i := 0) (x := a) rfl k) ?_
        refine ev_callV (As := []) (st := []) (fun v7 => []) dX10_edgeWord_71 mlX10_227 (kd10_0 h_a) rfl rfl rfl rfl rfl rfl (c_X10_next (d := d) h_a) (fun _ => trivial) (fun _ => rfl) (fun v7 => ?_)
        exact ev_ret (e_iload_n dX10_edgeWord_74 rfl (i := 1) (x := 2) rfl (e_iret dX10_edgeWord_75))
      · refine ev_st (pc' := 56) (L' := [xR a, xU]) (st' := [xL 83513837, xL (v1 a 21)]) (fun _ _ _ k => e_aload_n dX10_edgeWord_49 rfl (i := 0) (x := a) rfl (e_getl dX10_edgeWord_50 flX10_192 (kd10_0 h_a) rfl (e_ldc2 dX10_edgeWord_53 ckX10_236 (k8 rfl) k))) ?_
        refine ev_br2 (P := (v1 a 21) = 83513837) (pct := 60) (pcf := 64) (st' := []) (fun _ _ _ kt kf => e_lcmp dX10_edgeWord_56 (e_lne dX10_edgeWord_57 (tgt := 64) rfl kt kf)) (fun h8 => ?_) (fun h8 => ?_)
        · refine ev_st (pc' := 70) (L' := [xR a, xI 3]) (st' := []) (fun _ _ _ k => e_iconst dX10_edgeWord_60 (k4 rfl) (e_goto dX10_edgeWord_61 (tgt := 65) rfl (e_istore_n dX10_edgeWord_65 rfl (i := 1) rfl (L' := [xR a, xI 3]) rfl (e_iload_n dX10_edgeWord_66 rfl (i := 1) (x := 3) rfl (e_ifltF dX10_edgeWord_67 (tgt := 74) rfl (by decide) k))))) ?_
          refine ev_st (pc' := 71) (L' := [xR a, xI 3]) (st' := [xR a]) (fun _ _ _ k => e_aload_n dX10_edgeWord_70 rfl (i := 0) (x := a) rfl k) ?_
          refine ev_callV (As := []) (st := []) (fun v9 => []) dX10_edgeWord_71 mlX10_227 (kd10_0 h_a) rfl rfl rfl rfl rfl rfl (c_X10_next (d := d) h_a) (fun _ => trivial) (fun _ => rfl) (fun v9 => ?_)
          exact ev_ret (e_iload_n dX10_edgeWord_74 rfl (i := 1) (x := 3) rfl (e_iret dX10_edgeWord_75))
        · refine ev_st (pc' := 74) (L' := [xR a, xI (-1)]) (st' := []) (fun _ _ _ k => e_iconst dX10_edgeWord_64 (k4 rfl) (e_istore_n dX10_edgeWord_65 rfl (i := 1) rfl (L' := [xR a, xI (-1)]) rfl (e_iload_n dX10_edgeWord_66 rfl (i := 1) (x := (-1)) rfl (e_ifltT dX10_edgeWord_67 (tgt := 74) rfl (by decide) k)))) ?_
          exact ev_ret (e_iload_n dX10_edgeWord_74 rfl (i := 1) (x := (-1)) rfl (e_iret dX10_edgeWord_75))
