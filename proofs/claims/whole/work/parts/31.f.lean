def f_X10_layer (a : Nat) (i0 : Int) (i1 : Int) (i2 : Int) (R : xN) : Option (Int × xN) :=
  (f_X10_layNow a R).bind (fun v1 =>
  (f_X10_in i0 0 (w4 ((w4 ((v1 a 7) * (v1 a 8))) - 1)) v1).bind (fun v2 =>
  if v2 = true then
  (f_X10_in i1 0 (w4 ((v1 a 9) - 1)) v1).bind (fun v4 =>
  if v4 = true then
  (f_X10_in i2 0 4 v1).bind (fun v6 =>
  if v6 = true then
  xlet (w4 ((w4 ((v1 a 9) * i0)) + i1)) (fun x8 =>
  if 0 ≤ x8 ∧ x8 < 16 then
  xlet (v1 (a + 5) (x8).toNat) (fun x10 =>
  if i2 = 0 then
  if (v1 (a + 1) 1) ≠ 0 then
  some ((w4 (Int.tdiv x10 (v1 (a + 1) 1))), v1)
  else none
  else
  if i2 = 1 then
  if (v1 (a + 1) 1) ≠ 0 then
  some ((Int.tmod x10 (v1 (a + 1) 1)), v1)
  else none
  else
  if i2 = 2 then
  if 0 ≤ x8 ∧ x8 < 16 then
  some ((v1 (a + 6) (x8).toNat), v1)
  else none
  else
  if i2 = 3 then
  if 0 ≤ x8 ∧ x8 < 16 then
  some ((v1 (a + 8) (x8).toNat), v1)
  else none
  else
  if 0 ≤ x8 ∧ x8 < 16 then
  some ((v1 (a + 7) (x8).toNat), v1)
  else none)
  else none)
  else
  some ((-1), v1))
  else
  some ((-1), v1))
  else
  some ((-1), v1)))
set_option maxRecDepth 20000 in
set_option maxHeartbeats 4000000 in
theorem c_X10_layer {l : Launch} {g : xG} {d : Nat} {A : xA} {R : xN} {a : Nat} (h_a : sh 10 A a) (i0 : Int) (i1 : Int) (i2 : Int) : Ev l g (d + 3) mX10_layer 0 [xR a, xI i0, xI i1, xI i2, xU, xU] [] A R (fun v : Int × xN => some (xI v.1)) (fun v => v.2) (f_X10_layer a i0 i1 i2 R) := by
  rw [f_X10_layer]
  refine ev_st (pc' := 1) (L' := [xR a, xI i0, xI i1, xI i2, xU, xU]) (st' := [xR a]) (fun _ _ _ k => e_aload_n dX10_layer_0 rfl (i := 0) (x := a) rfl k) ?_
  refine ev_callV (As := []) (st := []) (fun v1 => []) dX10_layer_1 mlX10_92 (kd10_0 h_a) rfl rfl rfl rfl rfl rfl (c_X10_layNow (d := d) h_a) (fun _ => trivial) (fun _ => rfl) (fun v1 => ?_)
  refine ev_st (pc' := 19) (L' := [xR a, xI i0, xI i1, xI i2, xU, xU]) (st' := [xL (w4 ((w4 ((v1 a 7) * (v1 a 8))) - 1)), xL 0, xL i0]) (fun _ _ _ k => e_iload_n dX10_layer_4 rfl (i := 1) (x := i0) rfl (e_i2l dX10_layer_5 (e_lconst dX10_layer_6 (i := 0) rfl (k8 rfl) (e_aload_n dX10_layer_7 rfl (i := 0) (x := a) rfl (e_geti dX10_layer_8 flX10_72 (kd10_0 h_a) (Or.inl rfl) (e_aload_n dX10_layer_11 rfl (i := 0) (x := a) rfl (e_geti dX10_layer_12 flX10_75 (kd10_0 h_a) (Or.inl rfl) (e_imul dX10_layer_15 (e_iconst dX10_layer_16 (k4 rfl) (e_isub dX10_layer_17 (e_i2l dX10_layer_18 k))))))))))) ?_
  refine ev_callS (As := [xL i0, xL 0, xL (w4 ((w4 ((v1 a 7) * (v1 a 8))) - 1))]) (st := []) (fun v2 => [xI (xz v2)]) dX10_layer_19 mlX10_101 rfl rfl rfl rfl rfl rfl (c_X10_in (d := d + 2) i0 0 (w4 ((w4 ((v1 a 7) * (v1 a 8))) - 1))) (fun _ => xz01 _) (fun _ => rfl) (fun v2 => ?_)
  refine ev_br2 (P := v2 = true) (pct := 25) (pcf := 53) (st' := []) (fun _ _ _ kt kf => e_ifeqz dX10_layer_22 (tgt := 53) rfl kt kf) (fun h3 => ?_) (fun h3 => ?_)
  · refine ev_st (pc' := 35) (L' := [xR a, xI i0, xI i1, xI i2, xU, xU]) (st' := [xL (w4 ((v1 a 9) - 1)), xL 0, xL i1]) (fun _ _ _ k => e_iload_n dX10_layer_25 rfl (i := 2) (x := i1) rfl (e_i2l dX10_layer_26 (e_lconst dX10_layer_27 (i := 0) rfl (k8 rfl) (e_aload_n dX10_layer_28 rfl (i := 0) (x := a) rfl (e_geti dX10_layer_29 flX10_78 (kd10_0 h_a) (Or.inl rfl) (e_iconst dX10_layer_32 (k4 rfl) (e_isub dX10_layer_33 (e_i2l dX10_layer_34 k)))))))) ?_
    refine ev_callS (As := [xL i1, xL 0, xL (w4 ((v1 a 9) - 1))]) (st := []) (fun v4 => [xI (xz v4)]) dX10_layer_35 mlX10_101 rfl rfl rfl rfl rfl rfl (c_X10_in (d := d + 2) i1 0 (w4 ((v1 a 9) - 1))) (fun _ => xz01 _) (fun _ => rfl) (fun v4 => ?_)
    refine ev_br2 (P := v4 = true) (pct := 41) (pcf := 53) (st' := []) (fun _ _ _ kt kf => e_ifeqz dX10_layer_38 (tgt := 53) rfl kt kf) (fun h5 => ?_) (fun h5 => ?_)
    · refine ev_st (pc' := 47) (L' := [xR a, xI i0, xI i1, xI i2, xU, xU]) (st' := [xL 4, xL 0, xL i2]) (fun _ _ _ k => e_iload_n dX10_layer_41 rfl (i := 3) (x := i2) rfl (e_i2l dX10_layer_42 (e_lconst dX10_layer_43 (i := 0) rfl (k8 rfl) (e_ldc2 dX10_layer_44 ckX10_99 (k8 rfl) k)))) ?_
      refine ev_callS (As := [xL i2, xL 0, xL 4]) (st := []) (fun v6 => [xI (xz v6)]) dX10_layer_47 mlX10_101 rfl rfl rfl rfl rfl rfl (c_X10_in (d := d + 2) i2 0 4) (fun _ => xz01 _) (fun _ => rfl) (fun v6 => ?_)
      refine ev_br2 (P := v6 = true) (pct := 55) (pcf := 53) (st' := []) (fun _ _ _ kt kf => e_ifnez dX10_layer_50 (tgt := 55) rfl kt kf) (fun h7 => ?_) (fun h7 => ?_)
      · refine ev_st (pc' := 63) (L' := [xR a, xI i0, xI i1, xI i2, xU, xU]) (st' := [xI (w4 ((w4 ((v1 a 9) * i0)) + i1))]) (fun _ _ _ k => e_aload_n dX10_layer_55 rfl (i := 0) (x := a) rfl (e_geti dX10_layer_56 flX10_78 (kd10_0 h_a) (Or.inl rfl) (e_iload_n dX10_layer_59 rfl (i := 1) (x := i0) rfl (e_imul dX10_layer_60 (e_iload_n dX10_layer_61 rfl (i := 2) (x := i1) rfl (e_iadd dX10_layer_62 k)))))) ?_
        refine ev_leti (fun x8 ex8 => ?_)
        refine ev_st (pc' := 65) (L' := [xR a, xI i0, xI i1, xI i2, xI x8, xU]) (st' := []) (fun _ _ _ k => e_istore dX10_layer_63 (i := 4) rfl (L' := [xR a, xI i0, xI i1, xI i2, xI x8, xU]) rfl k) ?_
        refine ev_st (pc' := 71) (L' := [xR a, xI i0, xI i1, xI i2, xI x8, xU]) (st' := [xI x8, xR (a + 5)]) (fun _ _ _ k => e_aload_n dX10_layer_65 rfl (i := 0) (x := a) rfl (e_getr dX10_layer_66 flX10_22 (kd10_0 h_a) rfl (rf10_0_10 h_a) (e_iload dX10_layer_69 (i := 4) (x := x8) rfl k))) ?_
        refine ev_chk (fun h9 => ?_)
        refine ev_st (pc' := 72) (L' := [xR a, xI i0, xI i1, xI i2, xI x8, xU]) (st' := [xI (v1 (a + 5) (x8).toNat)]) (fun _ _ _ k => e_iald dX10_layer_71 (kd10_5 h_a) h9.1 h9.2 k) ?_
        refine ev_leti (fun x10 ex10 => ?_)
        refine ev_st (pc' := 74) (L' := [xR a, xI i0, xI i1, xI i2, xI x8, xI x10]) (st' := []) (fun _ _ _ k => e_istore dX10_layer_72 (i := 5) rfl (L' := [xR a, xI i0, xI i1, xI i2, xI x8, xI x10]) rfl k) ?_
        refine ev_st (pc' := 75) (L' := [xR a, xI i0, xI i1, xI i2, xI x8, xI x10]) (st' := [xI i2]) (fun _ _ _ k => e_iload_n dX10_layer_74 rfl (i := 3) (x := i2) rfl k) ?_
        refine ev_br2 (P := i2 = 0) (pct := 78) (pcf := 90) (st' := []) (fun _ _ _ kt kf => e_ifne dX10_layer_75 (tgt := 90) rfl kt kf) (fun h11 => ?_) (fun h11 => ?_)
        · refine ev_st (pc' := 86) (L' := [xR a, xI i0, xI i1, xI i2, xI x8, xI x10]) (st' := [xI (v1 (a + 1) 1), xI x10]) (fun _ _ _ k => e_iload dX10_layer_78 (i := 5) (x := x10) rfl (e_aload_n dX10_layer_80 rfl (i := 0) (x := a) rfl (e_getr dX10_layer_81 flX10_7 (kd10_0 h_a) rfl (rf10_0_0 h_a) (e_iconst dX10_layer_84 (k4 rfl) (e_iald dX10_layer_85 (kd10_1 h_a) (by decide) (by decide) k))))) ?_
          refine ev_chk (fun h12 => ?_)
          refine ev_st (pc' := 87) (L' := [xR a, xI i0, xI i1, xI i2, xI x8, xI x10]) (st' := [xI (w4 (Int.tdiv x10 (v1 (a + 1) 1)))]) (fun _ _ _ k => e_idiv dX10_layer_86 h12 k) ?_
          exact ev_ret (e_goto dX10_layer_87 (tgt := 144) rfl (e_iret dX10_layer_144))
        · refine ev_st (pc' := 92) (L' := [xR a, xI i0, xI i1, xI i2, xI x8, xI x10]) (st' := [xI 1, xI i2]) (fun _ _ _ k => e_iload_n dX10_layer_90 rfl (i := 3) (x := i2) rfl (e_iconst dX10_layer_91 (k4 rfl) k)) ?_
          refine ev_br2 (P := i2 = 1) (pct := 95) (pcf := 107) (st' := []) (fun _ _ _ kt kf => e_cne dX10_layer_92 (tgt := 107) rfl kt kf) (fun h13 => ?_) (fun h13 => ?_)
          · refine ev_st (pc' := 103) (L' := [xR a, xI i0, xI i1, xI i2, xI x8, xI x10]) (st' := [xI (v1 (a + 1) 1), xI x10]) (fun _ _ _ k => e_iload dX10_layer_95 (i := 5) (x := x10) rfl (e_aload_n dX10_layer_97 rfl (i := 0) (x := a) rfl (e_getr dX10_layer_98 flX10_7 (kd10_0 h_a) rfl (rf10_0_0 h_a) (e_iconst dX10_layer_101 (k4 rfl) (e_iald dX10_layer_102 (kd10_1 h_a) (by decide) (by decide) k))))) ?_
            refine ev_chk (fun h14 => ?_)
            refine ev_st (pc' := 104) (L' := [xR a, xI i0, xI i1, xI i2, xI x8, xI x10]) (st' := [xI (Int.tmod x10 (v1 (a + 1) 1))]) (fun _ _ _ k => e_irem dX10_layer_103 h14 k) ?_
            exact ev_ret (e_goto dX10_layer_104 (tgt := 144) rfl (e_iret dX10_layer_144))
          · refine ev_st (pc' := 109) (L' := [xR a, xI i0, xI i1, xI i2, xI x8, xI x10]) (st' := [xI 2, xI i2]) (fun _ _ _ k => e_iload_n dX10_layer_107 rfl (i := 3) (x := i2) rfl (e_iconst dX10_layer_108 (k4 rfl) k)) ?_
            refine ev_br2 (P := i2 = 2) (pct := 112) (pcf := 122) (st' := []) (fun _ _ _ kt kf => e_cne dX10_layer_109 (tgt := 122) rfl kt kf) (fun h15 => ?_) (fun h15 => ?_)
            · refine ev_st (pc' := 118) (L' := [xR a, xI i0, xI i1, xI i2, xI x8, xI x10]) (st' := [xI x8, xR (a + 6)]) (fun _ _ _ k => e_aload_n dX10_layer_112 rfl (i := 0) (x := a) rfl (e_getr dX10_layer_113 flX10_25 (kd10_0 h_a) rfl (rf10_0_11 h_a) (e_iload dX10_layer_116 (i := 4) (x := x8) rfl k))) ?_
              refine ev_chk (fun h16 => ?_)
              refine ev_st (pc' := 119) (L' := [xR a, xI i0, xI i1, xI i2, xI x8, xI x10]) (st' := [xI (v1 (a + 6) (x8).toNat)]) (fun _ _ _ k => e_iald dX10_layer_118 (kd10_6 h_a) h16.1 h16.2 k) ?_
              exact ev_ret (e_goto dX10_layer_119 (tgt := 144) rfl (e_iret dX10_layer_144))
            · refine ev_st (pc' := 124) (L' := [xR a, xI i0, xI i1, xI i2, xI x8, xI x10]) (st' := [xI 3, xI i2]) (fun _ _ _ k => e_iload_n dX10_layer_122 rfl (i := 3) (x := i2) rfl (e_iconst dX10_layer_123 (k4 rfl) k)) ?_
              refine ev_br2 (P := i2 = 3) (pct := 127) (pcf := 137) (st' := []) (fun _ _ _ kt kf => e_cne dX10_layer_124 (tgt := 137) rfl kt kf) (fun h17 => ?_) (fun h17 => ?_)
              · refine ev_st (pc' := 133) (L' := [xR a, xI i0, xI i1, xI i2, xI x8, xI x10]) (st' := [xI x8, xR (a + 8)]) (fun _ _ _ k => e_aload_n dX10_layer_127 rfl (i := 0) (x := a) rfl (e_getr dX10_layer_128 flX10_31 (kd10_0 h_a) rfl (rf10_0_13 h_a) (e_iload dX10_layer_131 (i := 4) (x := x8) rfl k))) ?_
                refine ev_chk (fun h18 => ?_)
                refine ev_st (pc' := 134) (L' := [xR a, xI i0, xI i1, xI i2, xI x8, xI x10]) (st' := [xI (v1 (a + 8) (x8).toNat)]) (fun _ _ _ k => e_iald dX10_layer_133 (kd10_8 h_a) h18.1 h18.2 k) ?_
                exact ev_ret (e_goto dX10_layer_134 (tgt := 144) rfl (e_iret dX10_layer_144))
              · refine ev_st (pc' := 143) (L' := [xR a, xI i0, xI i1, xI i2, xI x8, xI x10]) (st' := [xI x8, xR (a + 7)]) (fun _ _ _ k => e_aload_n dX10_layer_137 rfl (i := 0) (x := a) rfl (e_getr dX10_layer_138 flX10_28 (kd10_0 h_a) rfl (rf10_0_12 h_a) (e_iload dX10_layer_141 (i := 4) (x := x8) rfl k))) ?_
                refine ev_chk (fun h19 => ?_)
                refine ev_st (pc' := 144) (L' := [xR a, xI i0, xI i1, xI i2, xI x8, xI x10]) (st' := [xI (v1 (a + 7) (x8).toNat)]) (fun _ _ _ k => e_iald dX10_layer_143 (kd10_7 h_a) h19.1 h19.2 k) ?_
                exact ev_ret (e_iret dX10_layer_144)
      · exact ev_ret (e_iconst dX10_layer_53 (k4 rfl) (e_iret dX10_layer_54))
    · exact ev_ret (e_iconst dX10_layer_53 (k4 rfl) (e_iret dX10_layer_54))
  · exact ev_ret (e_iconst dX10_layer_53 (k4 rfl) (e_iret dX10_layer_54))
def f_X10_comesAhead (a : Nat) (i0 : Int) (i1 : Int) (R : xN) : Option (Bool) :=
  xlet (w4 (38 + (w4 (4 * i0)))) (fun x1 =>
  xlet (w4 (38 + (w4 (4 * i1)))) (fun x2 =>
  if 0 ≤ (w4 (x1 + 1)) ∧ (w4 (x1 + 1)) < 464 then
  if 0 ≤ (w4 (x2 + 1)) ∧ (w4 (x2 + 1)) < 464 then
  if (R (a + 1) ((w4 (x1 + 1))).toNat) = (R (a + 1) ((w4 (x2 + 1))).toNat) then
  if 0 ≤ x1 ∧ x1 < 464 then
  if 0 ≤ x2 ∧ x2 < 464 then
  if (R (a + 1) (x1).toNat) = (R (a + 1) (x2).toNat) then
  if i1 ≤ i0 then
  some false
  else
  some true
  else
  if 0 ≤ x1 ∧ x1 < 464 then
  if 0 ≤ x2 ∧ x2 < 464 then
  if (R (a + 1) (x2).toNat) ≤ (R (a + 1) (x1).toNat) then
  some false
  else
  some true
  else none
  else none
  else none
  else none
  else
  if 0 ≤ (w4 (x1 + 1)) ∧ (w4 (x1 + 1)) < 464 then
  if 0 ≤ (w4 (x2 + 1)) ∧ (w4 (x2 + 1)) < 464 then
  if (R (a + 1) ((w4 (x1 + 1))).toNat) ≤ (R (a + 1) ((w4 (x2 + 1))).toNat) then
  some false
  else
  some true
  else none
  else none
  else none
  else none))
set_option maxRecDepth 20000 in
set_option maxHeartbeats 4000000 in
theorem c_X10_comesAhead {l : Launch} {g : xG} {d : Nat} {A : xA} {R : xN} {a : Nat} (h_a : sh 10 A a) (i0 : Int) (i1 : Int) : Ev l g (d) mX10_comesAhead 0 [xR a, xI i0, xI i1, xU, xU] [] A R (fun v : Bool => some (xI (xz v))) (fun _ => R) (f_X10_comesAhead a i0 i1 R) := by
  rw [f_X10_comesAhead]
  refine ev_st (pc' := 6) (L' := [xR a, xI i0, xI i1, xU, xU]) (st' := [xI (w4 (38 + (w4 (4 * i0))))]) (fun _ _ _ k => e_bipush dX10_comesAhead_0 rfl (k4 rfl) (e_iconst dX10_comesAhead_2 (k4 rfl) (e_iload_n dX10_comesAhead_3 rfl (i := 1) (x := i0) rfl (e_imul dX10_comesAhead_4 (e_iadd dX10_comesAhead_5 k))))) ?_
  refine ev_leti (fun x1 ex1 => ?_)
  refine ev_st (pc' := 7) (L' := [xR a, xI i0, xI i1, xI x1, xU]) (st' := []) (fun _ _ _ k => e_istore_n dX10_comesAhead_6 rfl (i := 3) rfl (L' := [xR a, xI i0, xI i1, xI x1, xU]) rfl k) ?_
  refine ev_st (pc' := 13) (L' := [xR a, xI i0, xI i1, xI x1, xU]) (st' := [xI (w4 (38 + (w4 (4 * i1))))]) (fun _ _ _ k => e_bipush dX10_comesAhead_7 rfl (k4 rfl) (e_iconst dX10_comesAhead_9 (k4 rfl) (e_iload_n dX10_comesAhead_10 rfl (i := 2) (x := i1) rfl (e_imul dX10_comesAhead_11 (e_iadd dX10_comesAhead_12 k))))) ?_
  refine ev_leti (fun x2 ex2 => ?_)
  refine ev_st (pc' := 15) (L' := [xR a, xI i0, xI i1, xI x1, xI x2]) (st' := []) (fun _ _ _ k => e_istore dX10_comesAhead_13 (i := 4) rfl (L' := [xR a, xI i0, xI i1, xI x1, xI x2]) rfl k) ?_
  refine ev_st (pc' := 22) (L' := [xR a, xI i0, xI i1, xI x1, xI x2]) (st' := [xI (w4 (x1 + 1)), xR (a + 1)]) (fun _ _ _ k => e_aload_n dX10_comesAhead_15 rfl (i := 0) (x := a) rfl (e_getr dX10_comesAhead_16 flX10_7 (kd10_0 h_a) rfl (rf10_0_0 h_a) (e_iload_n dX10_comesAhead_19 rfl (i := 3) (x := x1) rfl (e_iconst dX10_comesAhead_20 (k4 rfl) (e_iadd dX10_comesAhead_21 k))))) ?_
  refine ev_chk (fun h3 => ?_)
  refine ev_st (pc' := 23) (L' := [xR a, xI i0, xI i1, xI x1, xI x2]) (st' := [xI (R (a + 1) ((w4 (x1 + 1))).toNat)]) (fun _ _ _ k => e_iald dX10_comesAhead_22 (kd10_1 h_a) h3.1 h3.2 k) ?_
  refine ev_st (pc' := 31) (L' := [xR a, xI i0, xI i1, xI x1, xI x2]) (st' := [xI (w4 (x2 + 1)), xR (a + 1), xI (R (a + 1) ((w4 (x1 + 1))).toNat)]) (fun _ _ _ k => e_aload_n dX10_comesAhead_23 rfl (i := 0) (x := a) rfl (e_getr dX10_comesAhead_24 flX10_7 (kd10_0 h_a) rfl (rf10_0_0 h_a) (e_iload dX10_comesAhead_27 (i := 4) (x := x2) rfl (e_iconst dX10_comesAhead_29 (k4 rfl) (e_iadd dX10_comesAhead_30 k))))) ?_
  refine ev_chk (fun h4 => ?_)
  refine ev_st (pc' := 32) (L' := [xR a, xI i0, xI i1, xI x1, xI x2]) (st' := [xI (R (a + 1) ((w4 (x2 + 1))).toNat), xI (R (a + 1) ((w4 (x1 + 1))).toNat)]) (fun _ _ _ k => e_iald dX10_comesAhead_31 (kd10_1 h_a) h4.1 h4.2 k) ?_
  refine ev_br2 (P := (R (a + 1) ((w4 (x1 + 1))).toNat) = (R (a + 1) ((w4 (x2 + 1))).toNat)) (pct := 63) (pcf := 35) (st' := []) (fun _ _ _ kt kf => e_ceq dX10_comesAhead_32 (tgt := 63) rfl kt kf) (fun h5 => ?_) (fun h5 => ?_)
  · refine ev_st (pc' := 68) (L' := [xR a, xI i0, xI i1, xI x1, xI x2]) (st' := [xI x1, xR (a + 1)]) (fun _ _ _ k => e_aload_n dX10_comesAhead_63 rfl (i := 0) (x := a) rfl (e_getr dX10_comesAhead_64 flX10_7 (kd10_0 h_a) rfl (rf10_0_0 h_a) (e_iload_n dX10_comesAhead_67 rfl (i := 3) (x := x1) rfl k))) ?_
    refine ev_chk (fun h6 => ?_)
    refine ev_st (pc' := 69) (L' := [xR a, xI i0, xI i1, xI x1, xI x2]) (st' := [xI (R (a + 1) (x1).toNat)]) (fun _ _ _ k => e_iald dX10_comesAhead_68 (kd10_1 h_a) h6.1 h6.2 k) ?_
    refine ev_st (pc' := 75) (L' := [xR a, xI i0, xI i1, xI x1, xI x2]) (st' := [xI x2, xR (a + 1), xI (R (a + 1) (x1).toNat)]) (fun _ _ _ k => e_aload_n dX10_comesAhead_69 rfl (i := 0) (x := a) rfl (e_getr dX10_comesAhead_70 flX10_7 (kd10_0 h_a) rfl (rf10_0_0 h_a) (e_iload dX10_comesAhead_73 (i := 4) (x := x2) rfl k))) ?_
    refine ev_chk (fun h7 => ?_)
    refine ev_st (pc' := 76) (L' := [xR a, xI i0, xI i1, xI x1, xI x2]) (st' := [xI (R (a + 1) (x2).toNat), xI (R (a + 1) (x1).toNat)]) (fun _ _ _ k => e_iald dX10_comesAhead_75 (kd10_1 h_a) h7.1 h7.2 k) ?_
    refine ev_br2 (P := (R (a + 1) (x1).toNat) = (R (a + 1) (x2).toNat)) (pct := 103) (pcf := 79) (st' := []) (fun _ _ _ kt kf => e_ceq dX10_comesAhead_76 (tgt := 103) rfl kt kf) (fun h8 => ?_) (fun h8 => ?_)
    · refine ev_st (pc' := 105) (L' := [xR a, xI i0, xI i1, xI x1, xI x2]) (st' := [xI i1, xI i0]) (fun _ _ _ k => e_iload_n dX10_comesAhead_103 rfl (i := 1) (x := i0) rfl (e_iload_n dX10_comesAhead_104 rfl (i := 2) (x := i1) rfl k)) ?_
      refine ev_br2 (P := i1 ≤ i0) (pct := 112) (pcf := 108) (st' := []) (fun _ _ _ kt kf => e_cge dX10_comesAhead_105 (tgt := 112) rfl kt kf) (fun h9 => ?_) (fun h9 => ?_)
      · exact ev_ret (e_iconst dX10_comesAhead_112 (k4 rfl) (e_iret dX10_comesAhead_113))
      · exact ev_ret (e_iconst dX10_comesAhead_108 (k4 rfl) (e_goto dX10_comesAhead_109 (tgt := 113) rfl (e_iret dX10_comesAhead_113)))
    · refine ev_st (pc' := 84) (L' := [xR a, xI i0, xI i1, xI x1, xI x2]) (st' := [xI x1, xR (a + 1)]) (fun _ _ _ k => e_aload_n dX10_comesAhead_79 rfl (i := 0) (x := a) rfl (e_getr dX10_comesAhead_80 flX10_7 (kd10_0 h_a) rfl (rf10_0_0 h_a) (e_iload_n dX10_comesAhead_83 rfl (i := 3) (x := x1) rfl k))) ?_
      refine ev_chk (fun h10 => ?_)
      refine ev_st (pc' := 85) (L' := [xR a, xI i0, xI i1, xI x1, xI x2]) (st' := [xI (R (a + 1) (x1).toNat)]) (fun _ _ _ k => e_iald dX10_comesAhead_84 (kd10_1 h_a) h10.1 h10.2 k) ?_
      refine ev_st (pc' := 91) (L' := [xR a, xI i0, xI i1, xI x1, xI x2]) (st' := [xI x2, xR (a + 1), xI (R (a + 1) (x1).toNat)]) (fun _ _ _ k => e_aload_n dX10_comesAhead_85 rfl (i := 0) (x := a) rfl (e_getr dX10_comesAhead_86 flX10_7 (kd10_0 h_a) rfl (rf10_0_0 h_a) (e_iload dX10_comesAhead_89 (i := 4) (x := x2) rfl k))) ?_
      refine ev_chk (fun h11 => ?_)
      refine ev_st (pc' := 92) (L' := [xR a, xI i0, xI i1, xI x1, xI x2]) (st' := [xI (R (a + 1) (x2).toNat), xI (R (a + 1) (x1).toNat)]) (fun _ _ _ k => e_iald dX10_comesAhead_91 (kd10_1 h_a) h11.1 h11.2 k) ?_
      refine ev_br2 (P := (R (a + 1) (x2).toNat) ≤ (R (a + 1) (x1).toNat)) (pct := 99) (pcf := 95) (st' := []) (fun _ _ _ kt kf => e_cge dX10_comesAhead_92 (tgt := 99) rfl kt kf) (fun h12 => ?_) (fun h12 => ?_)
      · exact ev_ret (e_iconst dX10_comesAhead_99 (k4 rfl) (e_goto dX10_comesAhead_100 (tgt := 113) rfl (e_iret dX10_comesAhead_113)))
      · exact ev_ret (e_iconst dX10_comesAhead_95 (k4 rfl) (e_goto dX10_comesAhead_96 (tgt := 113) rfl (e_iret dX10_comesAhead_113)))
  · refine ev_st (pc' := 42) (L' := [xR a, xI i0, xI i1, xI x1, xI x2]) (st' := [xI (w4 (x1 + 1)), xR (a + 1)]) (fun _ _ _ k => e_aload_n dX10_comesAhead_35 rfl (i := 0) (x := a) rfl (e_getr dX10_comesAhead_36 flX10_7 (kd10_0 h_a) rfl (rf10_0_0 h_a) (e_iload_n dX10_comesAhead_39 rfl (i := 3) (x := x1) rfl (e_iconst dX10_comesAhead_40 (k4 rfl) (e_iadd dX10_comesAhead_41 k))))) ?_
    refine ev_chk (fun h13 => ?_)
    refine ev_st (pc' := 43) (L' := [xR a, xI i0, xI i1, xI x1, xI x2]) (st' := [xI (R (a + 1) ((w4 (x1 + 1))).toNat)]) (fun _ _ _ k => e_iald dX10_comesAhead_42 (kd10_1 h_a) h13.1 h13.2 k) ?_
    refine ev_st (pc' := 51) (L' := [xR a, xI i0, xI i1, xI x1, xI x2]) (st' := [xI (w4 (x2 + 1)), xR (a + 1), xI (R (a + 1) ((w4 (x1 + 1))).toNat)]) (fun _ _ _ k => e_aload_n dX10_comesAhead_43 rfl (i := 0) (x := a) rfl (e_getr dX10_comesAhead_44 flX10_7 (kd10_0 h_a) rfl (rf10_0_0 h_a) (e_iload dX10_comesAhead_47 (i := 4) (x := x2) rfl (e_iconst dX10_comesAhead_49 (k4 rfl) (e_iadd dX10_comesAhead_50 k))))) ?_
    refine ev_chk (fun h14 => ?_)
    refine ev_st (pc' := 52) (L' := [xR a, xI i0, xI i1, xI x1, xI x2]) (st' := [xI (R (a + 1) ((w4 (x2 + 1))).toNat), xI (R (a + 1) ((w4 (x1 + 1))).toNat)]) (fun _ _ _ k => e_iald dX10_comesAhead_51 (kd10_1 h_a) h14.1 h14.2 k) ?_
    refine ev_br2 (P := (R (a + 1) ((w4 (x1 + 1))).toNat) ≤ (R (a + 1) ((w4 (x2 + 1))).toNat)) (pct := 59) (pcf := 55) (st' := []) (fun _ _ _ kt kf => e_cle dX10_comesAhead_52 (tgt := 59) rfl kt kf) (fun h15 => ?_) (fun h15 => ?_)
    · exact ev_ret (e_iconst dX10_comesAhead_59 (k4 rfl) (e_goto dX10_comesAhead_60 (tgt := 113) rfl (e_iret dX10_comesAhead_113)))
    · exact ev_ret (e_iconst dX10_comesAhead_55 (k4 rfl) (e_goto dX10_comesAhead_56 (tgt := 113) rfl (e_iret dX10_comesAhead_113)))
def f_X10_openingOf (a : Nat) (i0 : Int) (R : xN) : Option (Int) :=
  if (R (a + 1) 11) ≠ 0 then
  if 0 ≤ (w4 (Int.tdiv i0 (R (a + 1) 11))) ∧ (w4 (Int.tdiv i0 (R (a + 1) 11))) < 32 then
  some (w4 (Int.tdiv (w4 ((R (a + 15) ((w4 (Int.tdiv i0 (R (a + 1) 11)))).toNat) + 1)) 2))
  else none
  else none
set_option maxRecDepth 20000 in
set_option maxHeartbeats 4000000 in
theorem c_X10_openingOf {l : Launch} {g : xG} {d : Nat} {A : xA} {R : xN} {a : Nat} (h_a : sh 10 A a) (i0 : Int) : Ev l g (d) mX10_openingOf 0 [xR a, xI i0] [] A R (fun v : Int => some (xI v)) (fun _ => R) (f_X10_openingOf a i0 R) := by
  rw [f_X10_openingOf]
  refine ev_st (pc' := 12) (L' := [xR a, xI i0]) (st' := [xI (R (a + 1) 11), xI i0, xR (a + 15)]) (fun _ _ _ k => e_aload_n dX10_openingOf_0 rfl (i := 0) (x := a) rfl (e_getr dX10_openingOf_1 flX10_52 (kd10_0 h_a) rfl (rf10_0_29 h_a) (e_iload_n dX10_openingOf_4 rfl (i := 1) (x := i0) rfl (e_aload_n dX10_openingOf_5 rfl (i := 0) (x := a) rfl (e_getr dX10_openingOf_6 flX10_7 (kd10_0 h_a) rfl (rf10_0_0 h_a) (e_bipush dX10_openingOf_9 rfl (k4 rfl) (e_iald dX10_openingOf_11 (kd10_1 h_a) (by decide) (by decide) k))))))) ?_
  refine ev_chk (fun h1 => ?_)
  refine ev_st (pc' := 13) (L' := [xR a, xI i0]) (st' := [xI (w4 (Int.tdiv i0 (R (a + 1) 11))), xR (a + 15)]) (fun _ _ _ k => e_idiv dX10_openingOf_12 h1 k) ?_
  refine ev_chk (fun h2 => ?_)
  refine ev_st (pc' := 14) (L' := [xR a, xI i0]) (st' := [xI (R (a + 15) ((w4 (Int.tdiv i0 (R (a + 1) 11)))).toNat)]) (fun _ _ _ k => e_iald dX10_openingOf_13 (kd10_15 h_a) h2.1 h2.2 k) ?_
  exact ev_ret (e_iconst dX10_openingOf_14 (k4 rfl) (e_iadd dX10_openingOf_15 (e_iconst dX10_openingOf_16 (k4 rfl) (e_idiv dX10_openingOf_17 (by decide) (e_iret dX10_openingOf_18)))))
def lp_X10_wholeFrom_42 (a : Nat) (p1 : Int) (p2 : Int) (p3 : Int) (R : xN) : Nat → Int → (Int → Option (Int)) → Option (Int)
  | 0, _, _ => none
  | n + 1, y4, X =>
    if p3 ≤ y4 then
    X y4
    else
    if y4 ≤ p1 then
    xlet (w4 (y4 + 1)) (fun x5 =>
    lp_X10_wholeFrom_42 a p1 p2 p3 R n x5 X)
    else
    (f_X10_openingOf a y4 R).bind (fun v6 =>
    (f_X10_openingOf a (w4 (y4 - 1)) R).bind (fun v7 =>
    if v6 = v7 then
    xlet (w4 (y4 + 1)) (fun x9 =>
    lp_X10_wholeFrom_42 a p1 p2 p3 R n x9 X)
    else
    if p3 < (w4 (y4 + p2)) then
    xlet (w4 (y4 + 1)) (fun x11 =>
    lp_X10_wholeFrom_42 a p1 p2 p3 R n x11 X)
    else
    (f_X10_openingOf a y4 R).bind (fun v12 =>
    (f_X10_openingOf a (w4 ((w4 (y4 + p2)) - 1)) R).bind (fun v13 =>
    if v12 = v13 then
    some y4
    else
    xlet (w4 (y4 + 1)) (fun x15 =>
    lp_X10_wholeFrom_42 a p1 p2 p3 R n x15 X)))))
def f_X10_wholeFrom (a : Nat) (i0 : Int) (i1 : Int) (R : xN) : Option (Int) :=
  xlet (w4 ((R a 28) * (R (a + 1) 11))) (fun x1 =>
  if x1 < (w4 (i0 + i1)) then
  lp_X10_wholeFrom_42 a i0 i1 x1 R 6000 i0 (fun z16 =>
  some (-1))
  else
  (f_X10_openingOf a i0 R).bind (fun v17 =>
  (f_X10_openingOf a (w4 ((w4 (i0 + i1)) - 1)) R).bind (fun v18 =>
  if v17 = v18 then
  some i0
  else
  lp_X10_wholeFrom_42 a i0 i1 x1 R 6000 i0 (fun z20 =>
  some (-1)))))
set_option maxRecDepth 20000 in
set_option maxHeartbeats 4000000 in
theorem lc_X10_wholeFrom_42 {l : Launch} {g : xG} {d : Nat} {A : xA} {a : Nat} (h_a : sh 10 A a) (p1 : Int) (p2 : Int) (p3 : Int) (R : xN) {X : Int → Option (Int)} (hX : ∀ (y4 : Int), Ev l g (d + 1) mX10_wholeFrom 119 [xU, xU, xU, xU, xU, xU] [] A R (fun v : Int => some (xI v)) (fun _ => R) (X y4)) (n : Nat) (y4 : Int) : Ev l g (d + 1) mX10_wholeFrom 42 [xR a, xI p1, xI p2, xI p3, xI y4, xU] [] A R (fun v : Int => some (xI v)) (fun _ => R) (lp_X10_wholeFrom_42 a p1 p2 p3 R n y4 X) := by
  induction n generalizing y4 with
  | zero => exact ev_none
  | succ n ih =>
    rw [lp_X10_wholeFrom_42]
    refine ev_st (pc' := 45) (L' := [xR a, xI p1, xI p2, xI p3, xI y4, xU]) (st' := [xI p3, xI y4]) (fun _ _ _ k => e_iload dX10_wholeFrom_42 (i := 4) (x := y4) rfl (e_iload_n dX10_wholeFrom_44 rfl (i := 3) (x := p3) rfl k)) ?_
    refine ev_br2 (P := p3 ≤ y4) (pct := 119) (pcf := 48) (st' := []) (fun _ _ _ kt kf => e_cge dX10_wholeFrom_45 (tgt := 119) rfl kt kf) (fun h3 => ?_) (fun h3 => ?_)
    · refine ev_st (pc' := 119) (L' := [xU, xU, xU, xU, xU, xU]) (st' := []) (fun _ _ _ k => e_fg [0, 1, 2, 3, 4] k) ?_
      exact hX y4
    · refine ev_st (pc' := 51) (L' := [xR a, xI p1, xI p2, xI p3, xI y4, xU]) (st' := [xI p1, xI y4]) (fun _ _ _ k => e_iload dX10_wholeFrom_48 (i := 4) (x := y4) rfl (e_iload_n dX10_wholeFrom_50 rfl (i := 1) (x := p1) rfl k)) ?_
      refine ev_br2 (P := y4 ≤ p1) (pct := 75) (pcf := 54) (st' := []) (fun _ _ _ kt kf => e_cle dX10_wholeFrom_51 (tgt := 75) rfl kt kf) (fun h4 => ?_) (fun h4 => ?_)
      · refine ev_st (pc' := 113) (L' := [xR a, xI p1, xI p2, xI p3, xI y4, xI 0]) (st' := []) (fun _ _ _ k => e_iconst dX10_wholeFrom_75 (k4 rfl) (e_istore dX10_wholeFrom_76 (i := 5) rfl (L' := [xR a, xI p1, xI p2, xI p3, xI y4, xI 0]) rfl (e_iload dX10_wholeFrom_78 (i := 5) (x := 0) rfl (e_ifeqT dX10_wholeFrom_80 (tgt := 113) rfl (by decide) k)))) ?_
        refine ev_letx (fun x5 ex5 => ?_)
        refine ev_st (pc' := 116) (L' := [xR a, xI p1, xI p2, xI p3, xI x5, xI 0]) (st' := []) (fun _ _ _ k => e_iinc dX10_wholeFrom_113 (i := 4) rfl (x := y4) rfl (y := x5) ex5 (L' := [xR a, xI p1, xI p2, xI p3, xI x5, xI 0]) rfl k) ?_
        refine ev_st (pc' := 42) (L' := [xR a, xI p1, xI p2, xI p3, xI x5, xU]) (st' := []) (fun _ _ _ k => e_goto dX10_wholeFrom_116 (tgt := 42) rfl (e_fg [5] k)) ?_
        exact ih x5
      · refine ev_st (pc' := 57) (L' := [xR a, xI p1, xI p2, xI p3, xI y4, xU]) (st' := [xI y4, xR a]) (fun _ _ _ k => e_aload_n dX10_wholeFrom_54 rfl (i := 0) (x := a) rfl (e_iload dX10_wholeFrom_55 (i := 4) (x := y4) rfl k)) ?_
        refine ev_callV (As := [xI y4]) (st := []) (fun v6 => [xI v6]) dX10_wholeFrom_57 mlX10_338 (kd10_0 h_a) rfl rfl rfl rfl rfl rfl (c_X10_openingOf (d := d) h_a y4) (fun _ => trivial) (fun _ => rfl) (fun v6 => ?_)
        refine ev_st (pc' := 65) (L' := [xR a, xI p1, xI p2, xI p3, xI y4, xU]) (st' := [xI (w4 (y4 - 1)), xR a, xI v6]) (fun _ _ _ k => e_aload_n dX10_wholeFrom_60 rfl (i := 0) (x := a) rfl (e_iload dX10_wholeFrom_61 (i := 4) (x := y4) rfl (e_iconst dX10_wholeFrom_63 (k4 rfl) (e_isub dX10_wholeFrom_64 k)))) ?_
        refine ev_callV (As := [xI (w4 (y4 - 1))]) (st := [xI v6]) (fun v7 => [xI v7, xI v6]) dX10_wholeFrom_65 mlX10_338 (kd10_0 h_a) rfl rfl rfl rfl rfl rfl (c_X10_openingOf (d := d) h_a (w4 (y4 - 1))) (fun _ => trivial) (fun _ => rfl) (fun v7 => ?_)
        refine ev_br2 (P := v6 = v7) (pct := 75) (pcf := 71) (st' := []) (fun _ _ _ kt kf => e_ceq dX10_wholeFrom_68 (tgt := 75) rfl kt kf) (fun h8 => ?_) (fun h8 => ?_)
        · refine ev_st (pc' := 113) (L' := [xR a, xI p1, xI p2, xI p3, xI y4, xI 0]) (st' := []) (fun _ _ _ k => e_iconst dX10_wholeFrom_75 (k4 rfl) (e_istore dX10_wholeFrom_76 (i := 5) rfl (L' := [xR a, xI p1, xI p2, xI p3, xI y4, xI 0]) rfl (e_iload dX10_wholeFrom_78 (i := 5) (x := 0) rfl (e_ifeqT dX10_wholeFrom_80 (tgt := 113) rfl (by decide) k)))) ?_
          refine ev_letx (fun x9 ex9 => ?_)
          refine ev_st (pc' := 116) (L' := [xR a, xI p1, xI p2, xI p3, xI x9, xI 0]) (st' := []) (fun _ _ _ k => e_iinc dX10_wholeFrom_113 (i := 4) rfl (x := y4) rfl (y := x9) ex9 (L' := [xR a, xI p1, xI p2, xI p3, xI x9, xI 0]) rfl k) ?_
          refine ev_st (pc' := 42) (L' := [xR a, xI p1, xI p2, xI p3, xI x9, xU]) (st' := []) (fun _ _ _ k => e_goto dX10_wholeFrom_116 (tgt := 42) rfl (e_fg [5] k)) ?_
          exact ih x9
        · refine ev_st (pc' := 83) (L' := [xR a, xI p1, xI p2, xI p3, xI y4, xI 1]) (st' := []) (fun _ _ _ k => e_iconst dX10_wholeFrom_71 (k4 rfl) (e_goto dX10_wholeFrom_72 (tgt := 76) rfl (e_istore dX10_wholeFrom_76 (i := 5) rfl (L' := [xR a, xI p1, xI p2, xI p3, xI y4, xI 1]) rfl (e_iload dX10_wholeFrom_78 (i := 5) (x := 1) rfl (e_ifeqF dX10_wholeFrom_80 (tgt := 113) rfl (by decide) k))))) ?_
          refine ev_st (pc' := 88) (L' := [xR a, xI p1, xI p2, xI p3, xI y4, xI 1]) (st' := [xI p3, xI (w4 (y4 + p2))]) (fun _ _ _ k => e_iload dX10_wholeFrom_83 (i := 4) (x := y4) rfl (e_iload_n dX10_wholeFrom_85 rfl (i := 2) (x := p2) rfl (e_iadd dX10_wholeFrom_86 (e_iload_n dX10_wholeFrom_87 rfl (i := 3) (x := p3) rfl k)))) ?_
          refine ev_br2 (P := p3 < (w4 (y4 + p2))) (pct := 113) (pcf := 91) (st' := []) (fun _ _ _ kt kf => e_cgt dX10_wholeFrom_88 (tgt := 113) rfl kt kf) (fun h10 => ?_) (fun h10 => ?_)
          · refine ev_letx (fun x11 ex11 => ?_)
            refine ev_st (pc' := 116) (L' := [xR a, xI p1, xI p2, xI p3, xI x11, xI 1]) (st' := []) (fun _ _ _ k => e_iinc dX10_wholeFrom_113 (i := 4) rfl (x := y4) rfl (y := x11) ex11 (L' := [xR a, xI p1, xI p2, xI p3, xI x11, xI 1]) rfl k) ?_
            refine ev_st (pc' := 42) (L' := [xR a, xI p1, xI p2, xI p3, xI x11, xU]) (st' := []) (fun _ _ _ k => e_goto dX10_wholeFrom_116 (tgt := 42) rfl (e_fg [5] k)) ?_
            exact ih x11
          · refine ev_st (pc' := 94) (L' := [xR a, xI p1, xI p2, xI p3, xI y4, xI 1]) (st' := [xI y4, xR a]) (fun _ _ _ k => e_aload_n dX10_wholeFrom_91 rfl (i := 0) (x := a) rfl (e_iload dX10_wholeFrom_92 (i := 4) (x := y4) rfl k)) ?_
            refine ev_callV (As := [xI y4]) (st := []) (fun v12 => [xI v12]) dX10_wholeFrom_94 mlX10_338 (kd10_0 h_a) rfl rfl rfl rfl rfl rfl (c_X10_openingOf (d := d) h_a y4) (fun _ => trivial) (fun _ => rfl) (fun v12 => ?_)
            refine ev_st (pc' := 104) (L' := [xR a, xI p1, xI p2, xI p3, xI y4, xI 1]) (st' := [xI (w4 ((w4 (y4 + p2)) - 1)), xR a, xI v12]) (fun _ _ _ k => e_aload_n dX10_wholeFrom_97 rfl (i := 0) (x := a) rfl (e_iload dX10_wholeFrom_98 (i := 4) (x := y4) rfl (e_iload_n dX10_wholeFrom_100 rfl (i := 2) (x := p2) rfl (e_iadd dX10_wholeFrom_101 (e_iconst dX10_wholeFrom_102 (k4 rfl) (e_isub dX10_wholeFrom_103 k)))))) ?_
            refine ev_callV (As := [xI (w4 ((w4 (y4 + p2)) - 1))]) (st := [xI v12]) (fun v13 => [xI v13, xI v12]) dX10_wholeFrom_104 mlX10_338 (kd10_0 h_a) rfl rfl rfl rfl rfl rfl (c_X10_openingOf (d := d) h_a (w4 ((w4 (y4 + p2)) - 1))) (fun _ => trivial) (fun _ => rfl) (fun v13 => ?_)
            refine ev_br2 (P := v12 = v13) (pct := 110) (pcf := 113) (st' := []) (fun _ _ _ kt kf => e_cne dX10_wholeFrom_107 (tgt := 113) rfl kt kf) (fun h14 => ?_) (fun h14 => ?_)
            · exact ev_ret (e_iload dX10_wholeFrom_110 (i := 4) (x := y4) rfl (e_iret dX10_wholeFrom_112))
            · refine ev_letx (fun x15 ex15 => ?_)
              refine ev_st (pc' := 116) (L' := [xR a, xI p1, xI p2, xI p3, xI x15, xI 1]) (st' := []) (fun _ _ _ k => e_iinc dX10_wholeFrom_113 (i := 4) rfl (x := y4) rfl (y := x15) ex15 (L' := [xR a, xI p1, xI p2, xI p3, xI x15, xI 1]) rfl k) ?_
              refine ev_st (pc' := 42) (L' := [xR a, xI p1, xI p2, xI p3, xI x15, xU]) (st' := []) (fun _ _ _ k => e_goto dX10_wholeFrom_116 (tgt := 42) rfl (e_fg [5] k)) ?_
              exact ih x15
set_option maxRecDepth 20000 in
set_option maxHeartbeats 4000000 in
theorem c_X10_wholeFrom {l : Launch} {g : xG} {d : Nat} {A : xA} {R : xN} {a : Nat} (h_a : sh 10 A a) (i0 : Int) (i1 : Int) : Ev l g (d + 1) mX10_wholeFrom 0 [xR a, xI i0, xI i1, xU, xU, xU] [] A R (fun v : Int => some (xI v)) (fun _ => R) (f_X10_wholeFrom a i0 i1 R) := by
  rw [f_X10_wholeFrom]
  refine ev_st (pc' := 12) (L' := [xR a, xI i0, xI i1, xU, xU, xU]) (st' := [xI (w4 ((R a 28) * (R (a + 1) 11)))]) (fun _ _ _ k => e_aload_n dX10_wholeFrom_0 rfl (i := 0) (x := a) rfl (e_geti dX10_wholeFrom_1 flX10_335 (kd10_0 h_a) (Or.inl rfl) (e_aload_n dX10_wholeFrom_4 rfl (i := 0) (x := a) rfl (e_getr dX10_wholeFrom_5 flX10_7 (kd10_0 h_a) rfl (rf10_0_0 h_a) (e_bipush dX10_wholeFrom_8 rfl (k4 rfl) (e_iald dX10_wholeFrom_10 (kd10_1 h_a) (by decide) (by decide) (e_imul dX10_wholeFrom_11 k))))))) ?_
  refine ev_leti (fun x1 ex1 => ?_)
  refine ev_st (pc' := 13) (L' := [xR a, xI i0, xI i1, xI x1, xU, xU]) (st' := []) (fun _ _ _ k => e_istore_n dX10_wholeFrom_12 rfl (i := 3) rfl (L' := [xR a, xI i0, xI i1, xI x1, xU, xU]) rfl k) ?_
  refine ev_st (pc' := 17) (L' := [xR a, xI i0, xI i1, xI x1, xU, xU]) (st' := [xI x1, xI (w4 (i0 + i1))]) (fun _ _ _ k => e_iload_n dX10_wholeFrom_13 rfl (i := 1) (x := i0) rfl (e_iload_n dX10_wholeFrom_14 rfl (i := 2) (x := i1) rfl (e_iadd dX10_wholeFrom_15 (e_iload_n dX10_wholeFrom_16 rfl (i := 3) (x := x1) rfl k)))) ?_
  refine ev_br2 (P := x1 < (w4 (i0 + i1))) (pct := 39) (pcf := 20) (st' := []) (fun _ _ _ kt kf => e_cgt dX10_wholeFrom_17 (tgt := 39) rfl kt kf) (fun h2 => ?_) (fun h2 => ?_)
  · refine ev_st (pc' := 42) (L' := [xR a, xI i0, xI i1, xI x1, xI i0, xU]) (st' := []) (fun _ _ _ k => e_iload_n dX10_wholeFrom_39 rfl (i := 1) (x := i0) rfl (e_istore dX10_wholeFrom_40 (i := 4) rfl (L' := [xR a, xI i0, xI i1, xI x1, xI i0, xU]) rfl k)) ?_
    refine lc_X10_wholeFrom_42 h_a i0 i1 x1 R (fun z16 => ?_) 6000 i0
    exact ev_ret (e_iconst dX10_wholeFrom_119 (k4 rfl) (e_iret dX10_wholeFrom_120))
  · refine ev_st (pc' := 22) (L' := [xR a, xI i0, xI i1, xI x1, xU, xU]) (st' := [xI i0, xR a]) (fun _ _ _ k => e_aload_n dX10_wholeFrom_20 rfl (i := 0) (x := a) rfl (e_iload_n dX10_wholeFrom_21 rfl (i := 1) (x := i0) rfl k)) ?_
    refine ev_callV (As := [xI i0]) (st := []) (fun v17 => [xI v17]) dX10_wholeFrom_22 mlX10_338 (kd10_0 h_a) rfl rfl rfl rfl rfl rfl (c_X10_openingOf (d := d) h_a i0) (fun _ => trivial) (fun _ => rfl) (fun v17 => ?_)
    refine ev_st (pc' := 31) (L' := [xR a, xI i0, xI i1, xI x1, xU, xU]) (st' := [xI (w4 ((w4 (i0 + i1)) - 1)), xR a, xI v17]) (fun _ _ _ k => e_aload_n dX10_wholeFrom_25 rfl (i := 0) (x := a) rfl (e_iload_n dX10_wholeFrom_26 rfl (i := 1) (x := i0) rfl (e_iload_n dX10_wholeFrom_27 rfl (i := 2) (x := i1) rfl (e_iadd dX10_wholeFrom_28 (e_iconst dX10_wholeFrom_29 (k4 rfl) (e_isub dX10_wholeFrom_30 k)))))) ?_
    refine ev_callV (As := [xI (w4 ((w4 (i0 + i1)) - 1))]) (st := [xI v17]) (fun v18 => [xI v18, xI v17]) dX10_wholeFrom_31 mlX10_338 (kd10_0 h_a) rfl rfl rfl rfl rfl rfl (c_X10_openingOf (d := d) h_a (w4 ((w4 (i0 + i1)) - 1))) (fun _ => trivial) (fun _ => rfl) (fun v18 => ?_)
    refine ev_br2 (P := v17 = v18) (pct := 37) (pcf := 39) (st' := []) (fun _ _ _ kt kf => e_cne dX10_wholeFrom_34 (tgt := 39) rfl kt kf) (fun h19 => ?_) (fun h19 => ?_)
    · exact ev_ret (e_iload_n dX10_wholeFrom_37 rfl (i := 1) (x := i0) rfl (e_iret dX10_wholeFrom_38))
    · refine ev_st (pc' := 42) (L' := [xR a, xI i0, xI i1, xI x1, xI i0, xU]) (st' := []) (fun _ _ _ k => e_iload_n dX10_wholeFrom_39 rfl (i := 1) (x := i0) rfl (e_istore dX10_wholeFrom_40 (i := 4) rfl (L' := [xR a, xI i0, xI i1, xI x1, xI i0, xU]) rfl k)) ?_
      refine lc_X10_wholeFrom_42 h_a i0 i1 x1 R (fun z20 => ?_) 6000 i0
      exact ev_ret (e_iconst dX10_wholeFrom_119 (k4 rfl) (e_iret dX10_wholeFrom_120))
def lp_X10_layNotes_7 (a : Nat) : Nat → Int → xN → (Int → xN → Option (xN)) → Option (xN)
  | 0, _, _, _ => none
  | n + 1, y1, R, X =>
    if (w4 (2 * (R a 9))) ≤ y1 then
    X y1 R
    else
    (f_X10_isHidden a y1 R).bind (fun v3 =>
    if v3 = true then
    xlet (w4 (y1 + 1)) (fun x5 =>
    lp_X10_layNotes_7 a n x5 R X)
    else
    if 0 ≤ (R a 28) ∧ (R a 28) < 32 then
    xlet (xup R (a + 15) ((R a 28)).toNat y1) (fun R7 =>
    xlet (xup R7 a 28 (w4 ((R7 a 28) + 1))) (fun R8 =>
    xlet (w4 (y1 + 1)) (fun x9 =>
    lp_X10_layNotes_7 a n x9 R8 X)))
    else none)
def lp_X10_layNotes_74 (a : Nat) (p1 : Int) (p2 : Int) (p3 : Int) (R : xN) : Nat → Int → Int → (Int → Int → Option (xN)) → Option (xN)
  | 0, _, _, _ => none
  | n + 1, y4, y5, X =>
    if (R (a + 1) 37) ≤ y5 then
    X y4 y5
    else
    (f_X10_has p1 y5 R).bind (fun v14 =>
    if v14 = true then
    xlet (w4 (y5 + 1)) (fun x16 =>
    lp_X10_layNotes_74 a p1 p2 p3 R n y4 x16 X)
    else
    if y4 < 0 then
    xlet (w4 (y5 + 1)) (fun x18 =>
    lp_X10_layNotes_74 a p1 p2 p3 R n y5 x18 X)
    else
    (f_X10_comesAhead a y5 y4 R).bind (fun v19 =>
    xlet (if v19 = true then y5 else y4) (fun t20 =>
    xlet (w4 (y5 + 1)) (fun x21 =>
    lp_X10_layNotes_74 a p1 p2 p3 R n t20 x21 X))))
def lp_X10_layNotes_57 (a : Nat) : Nat → Int → Int → Int → xN → (Int → Int → Int → xN → Option (xN)) → Option (xN)
  | 0, _, _, _, _, _ => none
  | n + 1, y1, y2, y3, R, X =>
    if (R (a + 1) 37) ≤ y3 then
    X y1 y2 y3 R
    else
    lp_X10_layNotes_74 a y1 y2 y3 R 6000 (-1) 0 (fun z22 z23 =>
    xlet (b4or y1 (b4shl 1 z22)) (fun x24 =>
    if 0 ≤ (w4 ((w4 (38 + (w4 (4 * z22)))) + 2)) ∧ (w4 ((w4 (38 + (w4 (4 * z22)))) + 2)) < 464 then
    xlet (R (a + 1) ((w4 ((w4 (38 + (w4 (4 * z22)))) + 2))).toNat) (fun x26 =>
    if (w4 ((R a 28) * (R (a + 1) 11))) < (w4 (y2 + x26)) then
    if 0 ≤ (w4 ((w4 (38 + (w4 (4 * z22)))) + 3)) ∧ (w4 ((w4 (38 + (w4 (4 * z22)))) + 3)) < 464 then
    if (R (a + 1) ((w4 ((w4 (38 + (w4 (4 * z22)))) + 3))).toNat) = 1 then
    (f_X10_wholeFrom a y2 x26 R).bind (fun v30 =>
    if 0 ≤ z22 ∧ z22 < 12 then
    xlet (xup R (a + 16) (z22).toNat v30) (fun R32 =>
    if 0 ≤ z22 ∧ z22 < 12 then
    if 0 ≤ (R32 (a + 16) (z22).toNat) then
    if 0 ≤ z22 ∧ z22 < 12 then
    xlet (w4 ((R32 (a + 16) (z22).toNat) + x26)) (fun x36 =>
    xlet (w4 (y3 + 1)) (fun x37 =>
    lp_X10_layNotes_57 a n x24 x36 x37 R32 X))
    else none
    else
    xlet (w4 (y3 + 1)) (fun x38 =>
    lp_X10_layNotes_57 a n x24 y2 x38 R32 X)
    else none)
    else none)
    else
    if 0 ≤ z22 ∧ z22 < 12 then
    xlet (xup R (a + 16) (z22).toNat (-1)) (fun R40 =>
    if 0 ≤ z22 ∧ z22 < 12 then
    if 0 ≤ (R40 (a + 16) (z22).toNat) then
    if 0 ≤ z22 ∧ z22 < 12 then
    xlet (w4 ((R40 (a + 16) (z22).toNat) + x26)) (fun x44 =>
    xlet (w4 (y3 + 1)) (fun x45 =>
    lp_X10_layNotes_57 a n x24 x44 x45 R40 X))
    else none
    else
    xlet (w4 (y3 + 1)) (fun x46 =>
    lp_X10_layNotes_57 a n x24 y2 x46 R40 X)
    else none)
    else none
    else none
    else
    if 0 ≤ (w4 ((w4 (38 + (w4 (4 * z22)))) + 3)) ∧ (w4 ((w4 (38 + (w4 (4 * z22)))) + 3)) < 464 then
    if (R (a + 1) ((w4 ((w4 (38 + (w4 (4 * z22)))) + 3))).toNat) = 1 then
    (f_X10_wholeFrom a y2 x26 R).bind (fun v49 =>
    if 0 ≤ z22 ∧ z22 < 12 then
    xlet (xup R (a + 16) (z22).toNat v49) (fun R51 =>
    if 0 ≤ z22 ∧ z22 < 12 then
    if 0 ≤ (R51 (a + 16) (z22).toNat) then
    if 0 ≤ z22 ∧ z22 < 12 then
    xlet (w4 ((R51 (a + 16) (z22).toNat) + x26)) (fun x55 =>
    xlet (w4 (y3 + 1)) (fun x56 =>
    lp_X10_layNotes_57 a n x24 x55 x56 R51 X))
    else none
    else
    xlet (w4 (y3 + 1)) (fun x57 =>
    lp_X10_layNotes_57 a n x24 y2 x57 R51 X)
    else none)
    else none)
    else
    if 0 ≤ z22 ∧ z22 < 12 then
    xlet (xup R (a + 16) (z22).toNat y2) (fun R59 =>
    if 0 ≤ z22 ∧ z22 < 12 then
    if 0 ≤ (R59 (a + 16) (z22).toNat) then
    if 0 ≤ z22 ∧ z22 < 12 then
    xlet (w4 ((R59 (a + 16) (z22).toNat) + x26)) (fun x63 =>
    xlet (w4 (y3 + 1)) (fun x64 =>
    lp_X10_layNotes_57 a n x24 x63 x64 R59 X))
    else none
    else
    xlet (w4 (y3 + 1)) (fun x65 =>
    lp_X10_layNotes_57 a n x24 y2 x65 R59 X)
    else none)
    else none
    else none)
    else none))
def f_X10_layNotes (a : Nat) (R : xN) : Option (xN) :=
  xlet (xup R a 28 0) (fun R1 =>
  lp_X10_layNotes_7 a 6000 0 R1 (fun z10 R11 =>
  lp_X10_layNotes_57 a 6000 0 0 0 R11 (fun z66 z67 z68 R69 =>
  some R69)))
set_option maxRecDepth 20000 in
set_option maxHeartbeats 4000000 in
theorem lc_X10_layNotes_7 {l : Launch} {g : xG} {d : Nat} {A : xA} {a : Nat} (h_a : sh 10 A a)  {X : Int → xN → Option (xN)} (hX : ∀ (y1 : Int) (R : xN), Ev l g (d + 3) mX10_layNotes 51 [xR a, xU, xU, xU, xU, xU, xU] [] A R (fun _ : xN => none) (fun v => v) (X y1 R)) (n : Nat) (y1 : Int) (R : xN) : Ev l g (d + 3) mX10_layNotes 7 [xR a, xI y1, xU, xU, xU, xU, xU] [] A R (fun _ : xN => none) (fun v => v) (lp_X10_layNotes_7 a n y1 R X) := by
  induction n generalizing y1 R with
  | zero => exact ev_none
  | succ n ih =>
    rw [lp_X10_layNotes_7]
    refine ev_st (pc' := 14) (L' := [xR a, xI y1, xU, xU, xU, xU, xU]) (st' := [xI (w4 (2 * (R a 9))), xI y1]) (fun _ _ _ k => e_iload_n dX10_layNotes_7 rfl (i := 1) (x := y1) rfl (e_iconst dX10_layNotes_8 (k4 rfl) (e_aload_n dX10_layNotes_9 rfl (i := 0) (x := a) rfl (e_geti dX10_layNotes_10 flX10_78 (kd10_0 h_a) (Or.inl rfl) (e_imul dX10_layNotes_13 k))))) ?_
    refine ev_br2 (P := (w4 (2 * (R a 9))) ≤ y1) (pct := 51) (pcf := 17) (st' := []) (fun _ _ _ kt kf => e_cge dX10_layNotes_14 (tgt := 51) rfl kt kf) (fun h2 => ?_) (fun h2 => ?_)
    · refine ev_st (pc' := 51) (L' := [xR a, xU, xU, xU, xU, xU, xU]) (st' := []) (fun _ _ _ k => e_fg [1] k) ?_
      exact hX y1 R
    · refine ev_st (pc' := 19) (L' := [xR a, xI y1, xU, xU, xU, xU, xU]) (st' := [xI y1, xR a]) (fun _ _ _ k => e_aload_n dX10_layNotes_17 rfl (i := 0) (x := a) rfl (e_iload_n dX10_layNotes_18 rfl (i := 1) (x := y1) rfl k)) ?_
      refine ev_callV (As := [xI y1]) (st := []) (fun v3 => [xI (xz v3)]) dX10_layNotes_19 mlX10_320 (kd10_0 h_a) rfl rfl rfl rfl rfl rfl (c_X10_isHidden (d := d) h_a y1) (fun _ => xz01 _) (fun _ => rfl) (fun v3 => ?_)
      refine ev_br2 (P := v3 = true) (pct := 45) (pcf := 25) (st' := []) (fun _ _ _ kt kf => e_ifnez dX10_layNotes_22 (tgt := 45) rfl kt kf) (fun h4 => ?_) (fun h4 => ?_)
      · refine ev_letx (fun x5 ex5 => ?_)
        refine ev_st (pc' := 48) (L' := [xR a, xI x5, xU, xU, xU, xU, xU]) (st' := []) (fun _ _ _ k => e_iinc dX10_layNotes_45 (i := 1) rfl (x := y1) rfl (y := x5) ex5 (L' := [xR a, xI x5, xU, xU, xU, xU, xU]) rfl k) ?_
        refine ev_st (pc' := 7) (L' := [xR a, xI x5, xU, xU, xU, xU, xU]) (st' := []) (fun _ _ _ k => e_goto dX10_layNotes_48 (tgt := 7) rfl k) ?_
        exact ih x5 R
      · refine ev_st (pc' := 34) (L' := [xR a, xI y1, xU, xU, xU, xU, xU]) (st' := [xI y1, xI (R a 28), xR (a + 15)]) (fun _ _ _ k => e_aload_n dX10_layNotes_25 rfl (i := 0) (x := a) rfl (e_getr dX10_layNotes_26 flX10_52 (kd10_0 h_a) rfl (rf10_0_29 h_a) (e_aload_n dX10_layNotes_29 rfl (i := 0) (x := a) rfl (e_geti dX10_layNotes_30 flX10_335 (kd10_0 h_a) (Or.inl rfl) (e_iload_n dX10_layNotes_33 rfl (i := 1) (x := y1) rfl k))))) ?_
        refine ev_chk (fun h6 => ?_)
        refine ev_st (pc' := 35) (L' := [xR a, xI y1, xU, xU, xU, xU, xU]) (st' := []) (fun _ _ _ k => e_iast dX10_layNotes_34 (kd10_15 h_a) h6.1 h6.2 k) ?_
        refine ev_letR (fun R7 eR7 => ?_)
        refine ev_st (pc' := 45) (L' := [xR a, xI y1, xU, xU, xU, xU, xU]) (st' := []) (fun _ _ _ k => e_aload_n dX10_layNotes_35 rfl (i := 0) (x := a) rfl (e_dupR dX10_layNotes_36 (e_geti dX10_layNotes_37 flX10_335 (kd10_0 h_a) (Or.inl rfl) (e_iconst dX10_layNotes_40 (k4 rfl) (e_iadd dX10_layNotes_41 (e_puti dX10_layNotes_42 flX10_335 (kd10_0 h_a) (Or.inl rfl) rfl k)))))) ?_
        refine ev_letR (fun R8 eR8 => ?_)
        refine ev_letx (fun x9 ex9 => ?_)
        refine ev_st (pc' := 48) (L' := [xR a, xI x9, xU, xU, xU, xU, xU]) (st' := []) (fun _ _ _ k => e_iinc dX10_layNotes_45 (i := 1) rfl (x := y1) rfl (y := x9) ex9 (L' := [xR a, xI x9, xU, xU, xU, xU, xU]) rfl k) ?_
        refine ev_st (pc' := 7) (L' := [xR a, xI x9, xU, xU, xU, xU, xU]) (st' := []) (fun _ _ _ k => e_goto dX10_layNotes_48 (tgt := 7) rfl k) ?_
        exact ih x9 R8
set_option maxRecDepth 20000 in
set_option maxHeartbeats 4000000 in
theorem lc_X10_layNotes_74 {l : Launch} {g : xG} {d : Nat} {A : xA} {a : Nat} (h_a : sh 10 A a) (p1 : Int) (p2 : Int) (p3 : Int) (R : xN) {X : Int → Int → Option (xN)} (hX : ∀ (y4 : Int) (y5 : Int), Ev l g (d + 3) mX10_layNotes 126 [xR a, xI p1, xI p2, xI p3, xI y4, xU, xU] [] A R (fun _ : xN => none) (fun v => v) (X y4 y5)) (n : Nat) (y4 : Int) (y5 : Int) : Ev l g (d + 3) mX10_layNotes 74 [xR a, xI p1, xI p2, xI p3, xI y4, xI y5, xU] [] A R (fun _ : xN => none) (fun v => v) (lp_X10_layNotes_74 a p1 p2 p3 R n y4 y5 X) := by
  induction n generalizing y4 y5 with
  | zero => exact ev_none
  | succ n ih =>
    rw [lp_X10_layNotes_74]
    refine ev_st (pc' := 83) (L' := [xR a, xI p1, xI p2, xI p3, xI y4, xI y5, xU]) (st' := [xI (R (a + 1) 37), xI y5]) (fun _ _ _ k => e_iload dX10_layNotes_74 (i := 5) (x := y5) rfl (e_aload_n dX10_layNotes_76 rfl (i := 0) (x := a) rfl (e_getr dX10_layNotes_77 flX10_7 (kd10_0 h_a) rfl (rf10_0_0 h_a) (e_bipush dX10_layNotes_80 rfl (k4 rfl) (e_iald dX10_layNotes_82 (kd10_1 h_a) (by decide) (by decide) k))))) ?_
    refine ev_br2 (P := (R (a + 1) 37) ≤ y5) (pct := 126) (pcf := 86) (st' := []) (fun _ _ _ kt kf => e_cge dX10_layNotes_83 (tgt := 126) rfl kt kf) (fun h13 => ?_) (fun h13 => ?_)
    · refine ev_st (pc' := 126) (L' := [xR a, xI p1, xI p2, xI p3, xI y4, xU, xU]) (st' := []) (fun _ _ _ k => e_fg [5] k) ?_
      exact hX y4 y5
    · refine ev_st (pc' := 89) (L' := [xR a, xI p1, xI p2, xI p3, xI y4, xI y5, xU]) (st' := [xI y5, xI p1]) (fun _ _ _ k => e_iload_n dX10_layNotes_86 rfl (i := 1) (x := p1) rfl (e_iload dX10_layNotes_87 (i := 5) (x := y5) rfl k)) ?_
      refine ev_callS (As := [xI p1, xI y5]) (st := []) (fun v14 => [xI (xz v14)]) dX10_layNotes_89 mlX10_120 rfl rfl rfl rfl rfl rfl (c_X10_has (d := d + 2) p1 y5) (fun _ => xz01 _) (fun _ => rfl) (fun v14 => ?_)
      refine ev_br2 (P := v14 = true) (pct := 116) (pcf := 95) (st' := []) (fun _ _ _ kt kf => e_ifnez dX10_layNotes_92 (tgt := 116) rfl kt kf) (fun h15 => ?_) (fun h15 => ?_)
      · refine ev_st (pc' := 120) (L' := [xR a, xI p1, xI p2, xI p3, xI y4, xI y5, xU]) (st' := []) (fun _ _ _ k => e_iload dX10_layNotes_116 (i := 4) (x := y4) rfl (e_istore dX10_layNotes_118 (i := 4) rfl (L' := [xR a, xI p1, xI p2, xI p3, xI y4, xI y5, xU]) rfl k)) ?_
        refine ev_letx (fun x16 ex16 => ?_)
        refine ev_st (pc' := 123) (L' := [xR a, xI p1, xI p2, xI p3, xI y4, xI x16, xU]) (st' := []) (fun _ _ _ k => e_iinc dX10_layNotes_120 (i := 5) rfl (x := y5) rfl (y := x16) ex16 (L' := [xR a, xI p1, xI p2, xI p3, xI y4, xI x16, xU]) rfl k) ?_
        refine ev_st (pc' := 74) (L' := [xR a, xI p1, xI p2, xI p3, xI y4, xI x16, xU]) (st' := []) (fun _ _ _ k => e_goto dX10_layNotes_123 (tgt := 74) rfl k) ?_
        exact ih y4 x16
      · refine ev_st (pc' := 97) (L' := [xR a, xI p1, xI p2, xI p3, xI y4, xI y5, xU]) (st' := [xI y4]) (fun _ _ _ k => e_iload dX10_layNotes_95 (i := 4) (x := y4) rfl k) ?_
        refine ev_br2 (P := y4 < 0) (pct := 111) (pcf := 100) (st' := []) (fun _ _ _ kt kf => e_iflt dX10_layNotes_97 (tgt := 111) rfl kt kf) (fun h17 => ?_) (fun h17 => ?_)
        · refine ev_st (pc' := 120) (L' := [xR a, xI p1, xI p2, xI p3, xI y5, xI y5, xU]) (st' := []) (fun _ _ _ k => e_iload dX10_layNotes_111 (i := 5) (x := y5) rfl (e_goto dX10_layNotes_113 (tgt := 118) rfl (e_istore dX10_layNotes_118 (i := 4) rfl (L' := [xR a, xI p1, xI p2, xI p3, xI y5, xI y5, xU]) rfl k))) ?_
          refine ev_letx (fun x18 ex18 => ?_)
          refine ev_st (pc' := 123) (L' := [xR a, xI p1, xI p2, xI p3, xI y5, xI x18, xU]) (st' := []) (fun _ _ _ k => e_iinc dX10_layNotes_120 (i := 5) rfl (x := y5) rfl (y := x18) ex18 (L' := [xR a, xI p1, xI p2, xI p3, xI y5, xI x18, xU]) rfl k) ?_
          refine ev_st (pc' := 74) (L' := [xR a, xI p1, xI p2, xI p3, xI y5, xI x18, xU]) (st' := []) (fun _ _ _ k => e_goto dX10_layNotes_123 (tgt := 74) rfl k) ?_
          exact ih y5 x18
        · refine ev_st (pc' := 105) (L' := [xR a, xI p1, xI p2, xI p3, xI y4, xI y5, xU]) (st' := [xI y4, xI y5, xR a]) (fun _ _ _ k => e_aload_n dX10_layNotes_100 rfl (i := 0) (x := a) rfl (e_iload dX10_layNotes_101 (i := 5) (x := y5) rfl (e_iload dX10_layNotes_103 (i := 4) (x := y4) rfl k))) ?_
          refine ev_callV (As := [xI y5, xI y4]) (st := []) (fun v19 => [xI (xz v19)]) dX10_layNotes_105 mlX10_341 (kd10_0 h_a) rfl rfl rfl rfl rfl rfl (c_X10_comesAhead (d := d + 2) h_a y5 y4) (fun _ => xz01 _) (fun _ => rfl) (fun v19 => ?_)
          refine ev_tern (P := v19 = true) (a := y5) (b := y4) (pct := 111) (pcf := 116) (J := 118) (st' := []) (fun _ _ _ kt kf => e_ifeqz dX10_layNotes_108 (tgt := 116) rfl kt kf) (fun _ _ _ k => e_iload dX10_layNotes_111 (i := 5) (x := y5) rfl (e_goto dX10_layNotes_113 (tgt := 118) rfl k)) (fun _ _ _ k => e_iload dX10_layNotes_116 (i := 4) (x := y4) rfl k) (fun t20 et20 => ?_)
          refine ev_st (pc' := 120) (L' := [xR a, xI p1, xI p2, xI p3, xI t20, xI y5, xU]) (st' := []) (fun _ _ _ k => e_istore dX10_layNotes_118 (i := 4) rfl (L' := [xR a, xI p1, xI p2, xI p3, xI t20, xI y5, xU]) rfl k) ?_
          refine ev_letx (fun x21 ex21 => ?_)
          refine ev_st (pc' := 123) (L' := [xR a, xI p1, xI p2, xI p3, xI t20, xI x21, xU]) (st' := []) (fun _ _ _ k => e_iinc dX10_layNotes_120 (i := 5) rfl (x := y5) rfl (y := x21) ex21 (L' := [xR a, xI p1, xI p2, xI p3, xI t20, xI x21, xU]) rfl k) ?_
          refine ev_st (pc' := 74) (L' := [xR a, xI p1, xI p2, xI p3, xI t20, xI x21, xU]) (st' := []) (fun _ _ _ k => e_goto dX10_layNotes_123 (tgt := 74) rfl k) ?_
          exact ih t20 x21
set_option maxRecDepth 20000 in
set_option maxHeartbeats 4000000 in
theorem lc_X10_layNotes_57 {l : Launch} {g : xG} {d : Nat} {A : xA} {a : Nat} (h_a : sh 10 A a)  {X : Int → Int → Int → xN → Option (xN)} (hX : ∀ (y1 : Int) (y2 : Int) (y3 : Int) (R : xN), Ev l g (d + 3) mX10_layNotes 251 [xU, xU, xU, xU, xU, xU, xU] [] A R (fun _ : xN => none) (fun v => v) (X y1 y2 y3 R)) (n : Nat) (y1 : Int) (y2 : Int) (y3 : Int) (R : xN) : Ev l g (d + 3) mX10_layNotes 57 [xR a, xI y1, xI y2, xI y3, xU, xU, xU] [] A R (fun _ : xN => none) (fun v => v) (lp_X10_layNotes_57 a n y1 y2 y3 R X) := by
  induction n generalizing y1 y2 y3 R with
  | zero => exact ev_none
  | succ n ih =>
    rw [lp_X10_layNotes_57]
    refine ev_st (pc' := 65) (L' := [xR a, xI y1, xI y2, xI y3, xU, xU, xU]) (st' := [xI (R (a + 1) 37), xI y3]) (fun _ _ _ k => e_iload_n dX10_layNotes_57 rfl (i := 3) (x := y3) rfl (e_aload_n dX10_layNotes_58 rfl (i := 0) (x := a) rfl (e_getr dX10_layNotes_59 flX10_7 (kd10_0 h_a) rfl (rf10_0_0 h_a) (e_bipush dX10_layNotes_62 rfl (k4 rfl) (e_iald dX10_layNotes_64 (kd10_1 h_a) (by decide) (by decide) k))))) ?_
    refine ev_br2 (P := (R (a + 1) 37) ≤ y3) (pct := 251) (pcf := 68) (st' := []) (fun _ _ _ kt kf => e_cge dX10_layNotes_65 (tgt := 251) rfl kt kf) (fun h12 => ?_) (fun h12 => ?_)
    · refine ev_st (pc' := 251) (L' := [xU, xU, xU, xU, xU, xU, xU]) (st' := []) (fun _ _ _ k => e_fg [0, 1, 2, 3] k) ?_
      exact hX y1 y2 y3 R
    · refine ev_st (pc' := 74) (L' := [xR a, xI y1, xI y2, xI y3, xI (-1), xI 0, xU]) (st' := []) (fun _ _ _ k => e_iconst dX10_layNotes_68 (k4 rfl) (e_istore dX10_layNotes_69 (i := 4) rfl (L' := [xR a, xI y1, xI y2, xI y3, xI (-1), xU, xU]) rfl (e_iconst dX10_layNotes_71 (k4 rfl) (e_istore dX10_layNotes_72 (i := 5) rfl (L' := [xR a, xI y1, xI y2, xI y3, xI (-1), xI 0, xU]) rfl k)))) ?_
      refine lc_X10_layNotes_74 h_a y1 y2 y3 R (fun z22 z23 => ?_) 6000 (-1) 0
      refine ev_st (pc' := 132) (L' := [xR a, xI y1, xI y2, xI y3, xI z22, xU, xU]) (st' := [xI (b4or y1 (b4shl 1 z22))]) (fun _ _ _ k => e_iload_n dX10_layNotes_126 rfl (i := 1) (x := y1) rfl (e_iconst dX10_layNotes_127 (k4 rfl) (e_iload dX10_layNotes_128 (i := 4) (x := z22) rfl (e_ishl dX10_layNotes_130 (e_ior dX10_layNotes_131 k))))) ?_
      refine ev_leti (fun x24 ex24 => ?_)
      refine ev_st (pc' := 133) (L' := [xR a, xI x24, xI y2, xI y3, xI z22, xU, xU]) (st' := []) (fun _ _ _ k => e_istore_n dX10_layNotes_132 rfl (i := 1) rfl (L' := [xR a, xI x24, xI y2, xI y3, xI z22, xU, xU]) rfl k) ?_
      refine ev_st (pc' := 146) (L' := [xR a, xI x24, xI y2, xI y3, xI z22, xU, xU]) (st' := [xI (w4 ((w4 (38 + (w4 (4 * z22)))) + 2)), xR (a + 1)]) (fun _ _ _ k => e_aload_n dX10_layNotes_133 rfl (i := 0) (x := a) rfl (e_getr dX10_layNotes_134 flX10_7 (kd10_0 h_a) rfl (rf10_0_0 h_a) (e_bipush dX10_layNotes_137 rfl (k4 rfl) (e_iconst dX10_layNotes_139 (k4 rfl) (e_iload dX10_layNotes_140 (i := 4) (x := z22) rfl (e_imul dX10_layNotes_142 (e_iadd dX10_layNotes_143 (e_iconst dX10_layNotes_144 (k4 rfl) (e_iadd dX10_layNotes_145 k))))))))) ?_
      refine ev_chk (fun h25 => ?_)
      refine ev_st (pc' := 147) (L' := [xR a, xI x24, xI y2, xI y3, xI z22, xU, xU]) (st' := [xI (R (a + 1) ((w4 ((w4 (38 + (w4 (4 * z22)))) + 2))).toNat)]) (fun _ _ _ k => e_iald dX10_layNotes_146 (kd10_1 h_a) h25.1 h25.2 k) ?_
      refine ev_leti (fun x26 ex26 => ?_)
      refine ev_st (pc' := 149) (L' := [xR a, xI x24, xI y2, xI y3, xI z22, xI x26, xU]) (st' := []) (fun _ _ _ k => e_istore dX10_layNotes_147 (i := 5) rfl (L' := [xR a, xI x24, xI y2, xI y3, xI z22, xI x26, xU]) rfl k) ?_
      refine ev_st (pc' := 165) (L' := [xR a, xI x24, xI y2, xI y3, xI z22, xI x26, xU]) (st' := [xI (w4 ((R a 28) * (R (a + 1) 11))), xI (w4 (y2 + x26))]) (fun _ _ _ k => e_iload_n dX10_layNotes_149 rfl (i := 2) (x := y2) rfl (e_iload dX10_layNotes_150 (i := 5) (x := x26) rfl (e_iadd dX10_layNotes_152 (e_aload_n dX10_layNotes_153 rfl (i := 0) (x := a) rfl (e_geti dX10_layNotes_154 flX10_335 (kd10_0 h_a) (Or.inl rfl) (e_aload_n dX10_layNotes_157 rfl (i := 0) (x := a) rfl (e_getr dX10_layNotes_158 flX10_7 (kd10_0 h_a) rfl (rf10_0_0 h_a) (e_bipush dX10_layNotes_161 rfl (k4 rfl) (e_iald dX10_layNotes_163 (kd10_1 h_a) (by decide) (by decide) (e_imul dX10_layNotes_164 k)))))))))) ?_
      refine ev_br2 (P := (w4 ((R a 28) * (R (a + 1) 11))) < (w4 (y2 + x26))) (pct := 172) (pcf := 168) (st' := []) (fun _ _ _ kt kf => e_cgt dX10_layNotes_165 (tgt := 172) rfl kt kf) (fun h27 => ?_) (fun h27 => ?_)
      · refine ev_st (pc' := 194) (L' := [xR a, xI x24, xI y2, xI y3, xI z22, xI x26, xI 0]) (st' := [xI (w4 ((w4 (38 + (w4 (4 * z22)))) + 3)), xR (a + 1), xI z22, xR (a + 16)]) (fun _ _ _ k => e_iconst dX10_layNotes_172 (k4 rfl) (e_istore dX10_layNotes_173 (i := 6) rfl (L' := [xR a, xI x24, xI y2, xI y3, xI z22, xI x26, xI 0]) rfl (e_aload_n dX10_layNotes_175 rfl (i := 0) (x := a) rfl (e_getr dX10_layNotes_176 flX10_55 (kd10_0 h_a) rfl (rf10_0_30 h_a) (e_iload dX10_layNotes_179 (i := 4) (x := z22) rfl (e_aload_n dX10_layNotes_181 rfl (i := 0) (x := a) rfl (e_getr dX10_layNotes_182 flX10_7 (kd10_0 h_a) rfl (rf10_0_0 h_a) (e_bipush dX10_layNotes_185 rfl (k4 rfl) (e_iconst dX10_layNotes_187 (k4 rfl) (e_iload dX10_layNotes_188 (i := 4) (x := z22) rfl (e_imul dX10_layNotes_190 (e_iadd dX10_layNotes_191 (e_iconst dX10_layNotes_192 (k4 rfl) (e_iadd dX10_layNotes_193 k)))))))))))))) ?_
        refine ev_chk (fun h28 => ?_)
        refine ev_st (pc' := 195) (L' := [xR a, xI x24, xI y2, xI y3, xI z22, xI x26, xI 0]) (st' := [xI (R (a + 1) ((w4 ((w4 (38 + (w4 (4 * z22)))) + 3))).toNat), xI z22, xR (a + 16)]) (fun _ _ _ k => e_iald dX10_layNotes_194 (kd10_1 h_a) h28.1 h28.2 k) ?_
        refine ev_st (pc' := 196) (L' := [xR a, xI x24, xI y2, xI y3, xI z22, xI x26, xI 0]) (st' := [xI 1, xI (R (a + 1) ((w4 ((w4 (38 + (w4 (4 * z22)))) + 3))).toNat), xI z22, xR (a + 16)]) (fun _ _ _ k => e_iconst dX10_layNotes_195 (k4 rfl) k) ?_
        refine ev_br2 (P := (R (a + 1) ((w4 ((w4 (38 + (w4 (4 * z22)))) + 3))).toNat) = 1) (pct := 199) (pcf := 209) (st' := [xI z22, xR (a + 16)]) (fun _ _ _ kt kf => e_cne dX10_layNotes_196 (tgt := 209) rfl kt kf) (fun h29 => ?_) (fun h29 => ?_)
        · refine ev_st (pc' := 203) (L' := [xR a, xI x24, xI y2, xI y3, xI z22, xI x26, xI 0]) (st' := [xI x26, xI y2, xR a, xI z22, xR (a + 16)]) (fun _ _ _ k => e_aload_n dX10_layNotes_199 rfl (i := 0) (x := a) rfl (e_iload_n dX10_layNotes_200 rfl (i := 2) (x := y2) rfl (e_iload dX10_layNotes_201 (i := 5) (x := x26) rfl k))) ?_
          refine ev_callV (As := [xI y2, xI x26]) (st := [xI z22, xR (a + 16)]) (fun v30 => [xI v30, xI z22, xR (a + 16)]) dX10_layNotes_203 mlX10_344 (kd10_0 h_a) rfl rfl rfl rfl rfl rfl (c_X10_wholeFrom (d := d + 1) h_a y2 x26) (fun _ => trivial) (fun _ => rfl) (fun v30 => ?_)
          refine ev_st (pc' := 219) (L' := [xR a, xI x24, xI y2, xI y3, xI z22, xI x26, xI 0]) (st' := [xI v30, xI z22, xR (a + 16)]) (fun _ _ _ k => e_goto dX10_layNotes_206 (tgt := 219) rfl k) ?_
          refine ev_chk (fun h31 => ?_)
          refine ev_st (pc' := 220) (L' := [xR a, xI x24, xI y2, xI y3, xI z22, xI x26, xI 0]) (st' := []) (fun _ _ _ k => e_iast dX10_layNotes_219 (kd10_16 h_a) h31.1 h31.2 k) ?_
          refine ev_letR (fun R32 eR32 => ?_)
          refine ev_st (pc' := 226) (L' := [xR a, xI x24, xI y2, xI y3, xI z22, xI x26, xI 0]) (st' := [xI z22, xR (a + 16)]) (fun _ _ _ k => e_aload_n dX10_layNotes_220 rfl (i := 0) (x := a) rfl (e_getr dX10_layNotes_221 flX10_55 (kd10_0 h_a) rfl (rf10_0_30 h_a) (e_iload dX10_layNotes_224 (i := 4) (x := z22) rfl k))) ?_
          refine ev_chk (fun h33 => ?_)
          refine ev_st (pc' := 227) (L' := [xR a, xI x24, xI y2, xI y3, xI z22, xI x26, xI 0]) (st' := [xI (R32 (a + 16) (z22).toNat)]) (fun _ _ _ k => e_iald dX10_layNotes_226 (kd10_16 h_a) h33.1 h33.2 k) ?_
          refine ev_br2 (P := 0 ≤ (R32 (a + 16) (z22).toNat)) (pct := 234) (pcf := 230) (st' := []) (fun _ _ _ kt kf => e_ifge dX10_layNotes_227 (tgt := 234) rfl kt kf) (fun h34 => ?_) (fun h34 => ?_)
          · refine ev_st (pc' := 240) (L' := [xR a, xI x24, xI y2, xI y3, xI z22, xI x26, xI 0]) (st' := [xI z22, xR (a + 16)]) (fun _ _ _ k => e_aload_n dX10_layNotes_234 rfl (i := 0) (x := a) rfl (e_getr dX10_layNotes_235 flX10_55 (kd10_0 h_a) rfl (rf10_0_30 h_a) (e_iload dX10_layNotes_238 (i := 4) (x := z22) rfl k))) ?_
            refine ev_chk (fun h35 => ?_)
            refine ev_st (pc' := 241) (L' := [xR a, xI x24, xI y2, xI y3, xI z22, xI x26, xI 0]) (st' := [xI (R32 (a + 16) (z22).toNat)]) (fun _ _ _ k => e_iald dX10_layNotes_240 (kd10_16 h_a) h35.1 h35.2 k) ?_
            refine ev_st (pc' := 244) (L' := [xR a, xI x24, xI y2, xI y3, xI z22, xI x26, xI 0]) (st' := [xI (w4 ((R32 (a + 16) (z22).toNat) + x26))]) (fun _ _ _ k => e_iload dX10_layNotes_241 (i := 5) (x := x26) rfl (e_iadd dX10_layNotes_243 k)) ?_
            refine ev_leti (fun x36 ex36 => ?_)
            refine ev_st (pc' := 245) (L' := [xR a, xI x24, xI x36, xI y3, xI z22, xI x26, xI 0]) (st' := []) (fun _ _ _ k => e_istore_n dX10_layNotes_244 rfl (i := 2) rfl (L' := [xR a, xI x24, xI x36, xI y3, xI z22, xI x26, xI 0]) rfl k) ?_
            refine ev_letx (fun x37 ex37 => ?_)
            refine ev_st (pc' := 248) (L' := [xR a, xI x24, xI x36, xI x37, xI z22, xI x26, xI 0]) (st' := []) (fun _ _ _ k => e_iinc dX10_layNotes_245 (i := 3) rfl (x := y3) rfl (y := x37) ex37 (L' := [xR a, xI x24, xI x36, xI x37, xI z22, xI x26, xI 0]) rfl k) ?_
            refine ev_st (pc' := 57) (L' := [xR a, xI x24, xI x36, xI x37, xU, xU, xU]) (st' := []) (fun _ _ _ k => e_goto dX10_layNotes_248 (tgt := 57) rfl (e_fg [4, 5, 6] k)) ?_
            exact ih x24 x36 x37 R32
          · refine ev_st (pc' := 245) (L' := [xR a, xI x24, xI y2, xI y3, xI z22, xI x26, xI 0]) (st' := []) (fun _ _ _ k => e_iload_n dX10_layNotes_230 rfl (i := 2) (x := y2) rfl (e_goto dX10_layNotes_231 (tgt := 244) rfl (e_istore_n dX10_layNotes_244 rfl (i := 2) rfl (L' := [xR a, xI x24, xI y2, xI y3, xI z22, xI x26, xI 0]) rfl k))) ?_
            refine ev_letx (fun x38 ex38 => ?_)
            refine ev_st (pc' := 248) (L' := [xR a, xI x24, xI y2, xI x38, xI z22, xI x26, xI 0]) (st' := []) (fun _ _ _ k => e_iinc dX10_layNotes_245 (i := 3) rfl (x := y3) rfl (y := x38) ex38 (L' := [xR a, xI x24, xI y2, xI x38, xI z22, xI x26, xI 0]) rfl k) ?_
            refine ev_st (pc' := 57) (L' := [xR a, xI x24, xI y2, xI x38, xU, xU, xU]) (st' := []) (fun _ _ _ k => e_goto dX10_layNotes_248 (tgt := 57) rfl (e_fg [4, 5, 6] k)) ?_
            exact ih x24 y2 x38 R32
        · refine ev_st (pc' := 218) (L' := [xR a, xI x24, xI y2, xI y3, xI z22, xI x26, xI 0]) (st' := [xI z22, xR (a + 16)]) (fun _ _ _ k => e_iload dX10_layNotes_209 (i := 6) (x := 0) rfl (e_ifeqT dX10_layNotes_211 (tgt := 218) rfl (by decide) k)) ?_
          refine ev_st (pc' := 219) (L' := [xR a, xI x24, xI y2, xI y3, xI z22, xI x26, xI 0]) (st' := [xI (-1), xI z22, xR (a + 16)]) (fun _ _ _ k => e_iconst dX10_layNotes_218 (k4 rfl) k) ?_
          refine ev_chk (fun h39 => ?_)
          refine ev_st (pc' := 220) (L' := [xR a, xI x24, xI y2, xI y3, xI z22, xI x26, xI 0]) (st' := []) (fun _ _ _ k => e_iast dX10_layNotes_219 (kd10_16 h_a) h39.1 h39.2 k) ?_
          refine ev_letR (fun R40 eR40 => ?_)
          refine ev_st (pc' := 226) (L' := [xR a, xI x24, xI y2, xI y3, xI z22, xI x26, xI 0]) (st' := [xI z22, xR (a + 16)]) (fun _ _ _ k => e_aload_n dX10_layNotes_220 rfl (i := 0) (x := a) rfl (e_getr dX10_layNotes_221 flX10_55 (kd10_0 h_a) rfl (rf10_0_30 h_a) (e_iload dX10_layNotes_224 (i := 4) (x := z22) rfl k))) ?_
          refine ev_chk (fun h41 => ?_)
          refine ev_st (pc' := 227) (L' := [xR a, xI x24, xI y2, xI y3, xI z22, xI x26, xI 0]) (st' := [xI (R40 (a + 16) (z22).toNat)]) (fun _ _ _ k => e_iald dX10_layNotes_226 (kd10_16 h_a) h41.1 h41.2 k) ?_
          refine ev_br2 (P := 0 ≤ (R40 (a + 16) (z22).toNat)) (pct := 234) (pcf := 230) (st' := []) (fun _ _ _ kt kf => e_ifge dX10_layNotes_227 (tgt := 234) rfl kt kf) (fun h42 => ?_) (fun h42 => ?_)
          · refine ev_st (pc' := 240) (L' := [xR a, xI x24, xI y2, xI y3, xI z22, xI x26, xI 0]) (st' := [xI z22, xR (a + 16)]) (fun _ _ _ k => e_aload_n dX10_layNotes_234 rfl (i := 0) (x := a) rfl (e_getr dX10_layNotes_235 flX10_55 (kd10_0 h_a) rfl (rf10_0_30 h_a) (e_iload dX10_layNotes_238 (i := 4) (x := z22) rfl k))) ?_
            refine ev_chk (fun h43 => ?_)
            refine ev_st (pc' := 241) (L' := [xR a, xI x24, xI y2, xI y3, xI z22, xI x26, xI 0]) (st' := [xI (R40 (a + 16) (z22).toNat)]) (fun _ _ _ k => e_iald dX10_layNotes_240 (kd10_16 h_a) h43.1 h43.2 k) ?_
            refine ev_st (pc' := 244) (L' := [xR a, xI x24, xI y2, xI y3, xI z22, xI x26, xI 0]) (st' := [xI (w4 ((R40 (a + 16) (z22).toNat) + x26))]) (fun _ _ _ k => e_iload dX10_layNotes_241 (i := 5) (x := x26) rfl (e_iadd dX10_layNotes_243 k)) ?_
            refine ev_leti (fun x44 ex44 => ?_)
            refine ev_st (pc' := 245) (L' := [xR a, xI x24, xI x44, xI y3, xI z22, xI x26, xI 0]) (st' := []) (fun _ _ _ k => e_istore_n dX10_layNotes_244 rfl (i := 2) rfl (L' := [xR a, xI x24, xI x44, xI y3, xI z22, xI x26, xI 0]) rfl k) ?_
            refine ev_letx (fun x45 ex45 => ?_)
            refine ev_st (pc' := 248) (L' := [xR a, xI x24, xI x44, xI x45, xI z22, xI x26, xI 0]) (st' := []) (fun _ _ _ k => e_iinc dX10_layNotes_245 (i := 3) rfl (x := y3) rfl (y := x45) ex45 (L' := [xR a, xI x24, xI x44, xI x45, xI z22, xI x26, xI 0]) rfl k) ?_
            refine ev_st (pc' := 57) (L' := [xR a, xI x24, xI x44, xI x45, xU, xU, xU]) (st' := []) (fun _ _ _ k => e_goto dX10_layNotes_248 (tgt := 57) rfl (e_fg [4, 5, 6] k)) ?_
            exact ih x24 x44 x45 R40
          · refine ev_st (pc' := 245) (L' := [xR a, xI x24, xI y2, xI y3, xI z22, xI x26, xI 0]) (st' := []) (fun _ _ _ k => e_iload_n dX10_layNotes_230 rfl (i := 2) (x := y2) rfl (e_goto dX10_layNotes_231 (tgt := 244) rfl (e_istore_n dX10_layNotes_244 rfl (i := 2) rfl (L' := [xR a, xI x24, xI y2, xI y3, xI z22, xI x26, xI 0]) rfl k))) ?_
            refine ev_letx (fun x46 ex46 => ?_)
            refine ev_st (pc' := 248) (L' := [xR a, xI x24, xI y2, xI x46, xI z22, xI x26, xI 0]) (st' := []) (fun _ _ _ k => e_iinc dX10_layNotes_245 (i := 3) rfl (x := y3) rfl (y := x46) ex46 (L' := [xR a, xI x24, xI y2, xI x46, xI z22, xI x26, xI 0]) rfl k) ?_
            refine ev_st (pc' := 57) (L' := [xR a, xI x24, xI y2, xI x46, xU, xU, xU]) (st' := []) (fun _ _ _ k => e_goto dX10_layNotes_248 (tgt := 57) rfl (e_fg [4, 5, 6] k)) ?_
            exact ih x24 y2 x46 R40
      · refine ev_st (pc' := 194) (L' := [xR a, xI x24, xI y2, xI y3, xI z22, xI x26, xI 1]) (st' := [xI (w4 ((w4 (38 + (w4 (4 * z22)))) + 3)), xR (a + 1), xI z22, xR (a + 16)]) (fun _ _ _ k => e_iconst dX10_layNotes_168 (k4 rfl) (e_goto dX10_layNotes_169 (tgt := 173) rfl (e_istore dX10_layNotes_173 (i := 6) rfl (L' := [xR a, xI x24, xI y2, xI y3, xI z22, xI x26, xI 1]) rfl (e_aload_n dX10_layNotes_175 rfl (i := 0) (x := a) rfl (e_getr dX10_layNotes_176 flX10_55 (kd10_0 h_a) rfl (rf10_0_30 h_a) (e_iload dX10_layNotes_179 (i := 4) (x := z22) rfl (e_aload_n dX10_layNotes_181 rfl (i := 0) (x := a) rfl (e_getr dX10_layNotes_182 flX10_7 (kd10_0 h_a) rfl (rf10_0_0 h_a) (e_bipush dX10_layNotes_185 rfl (k4 rfl) (e_iconst dX10_layNotes_187 (k4 rfl) (e_iload dX10_layNotes_188 (i := 4) (x := z22) rfl (e_imul dX10_layNotes_190 (e_iadd dX10_layNotes_191 (e_iconst dX10_layNotes_192 (k4 rfl) (e_iadd dX10_layNotes_193 k))))))))))))))) ?_
        refine ev_chk (fun h47 => ?_)
        refine ev_st (pc' := 195) (L' := [xR a, xI x24, xI y2, xI y3, xI z22, xI x26, xI 1]) (st' := [xI (R (a + 1) ((w4 ((w4 (38 + (w4 (4 * z22)))) + 3))).toNat), xI z22, xR (a + 16)]) (fun _ _ _ k => e_iald dX10_layNotes_194 (kd10_1 h_a) h47.1 h47.2 k) ?_
        refine ev_st (pc' := 196) (L' := [xR a, xI x24, xI y2, xI y3, xI z22, xI x26, xI 1]) (st' := [xI 1, xI (R (a + 1) ((w4 ((w4 (38 + (w4 (4 * z22)))) + 3))).toNat), xI z22, xR (a + 16)]) (fun _ _ _ k => e_iconst dX10_layNotes_195 (k4 rfl) k) ?_
        refine ev_br2 (P := (R (a + 1) ((w4 ((w4 (38 + (w4 (4 * z22)))) + 3))).toNat) = 1) (pct := 199) (pcf := 209) (st' := [xI z22, xR (a + 16)]) (fun _ _ _ kt kf => e_cne dX10_layNotes_196 (tgt := 209) rfl kt kf) (fun h48 => ?_) (fun h48 => ?_)
        · refine ev_st (pc' := 203) (L' := [xR a, xI x24, xI y2, xI y3, xI z22, xI x26, xI 1]) (st' := [xI x26, xI y2, xR a, xI z22, xR (a + 16)]) (fun _ _ _ k => e_aload_n dX10_layNotes_199 rfl (i := 0) (x := a) rfl (e_iload_n dX10_layNotes_200 rfl (i := 2) (x := y2) rfl (e_iload dX10_layNotes_201 (i := 5) (x := x26) rfl k))) ?_
          refine ev_callV (As := [xI y2, xI x26]) (st := [xI z22, xR (a + 16)]) (fun v49 => [xI v49, xI z22, xR (a + 16)]) dX10_layNotes_203 mlX10_344 (kd10_0 h_a) rfl rfl rfl rfl rfl rfl (c_X10_wholeFrom (d := d + 1) h_a y2 x26) (fun _ => trivial) (fun _ => rfl) (fun v49 => ?_)
          refine ev_st (pc' := 219) (L' := [xR a, xI x24, xI y2, xI y3, xI z22, xI x26, xI 1]) (st' := [xI v49, xI z22, xR (a + 16)]) (fun _ _ _ k => e_goto dX10_layNotes_206 (tgt := 219) rfl k) ?_
          refine ev_chk (fun h50 => ?_)
          refine ev_st (pc' := 220) (L' := [xR a, xI x24, xI y2, xI y3, xI z22, xI x26, xI 1]) (st' := []) (fun _ _ _ k => e_iast dX10_layNotes_219 (kd10_16 h_a) h50.1 h50.2 k) ?_
          refine ev_letR (fun R51 eR51 => ?_)
          refine ev_st (pc' := 226) (L' := [xR a, xI x24, xI y2, xI y3, xI z22, xI x26, xI 1]) (st' := [xI z22, xR (a + 16)]) (fun _ _ _ k => e_aload_n dX10_layNotes_220 rfl (i := 0) (x := a) rfl (e_getr dX10_layNotes_221 flX10_55 (kd10_0 h_a) rfl (rf10_0_30 h_a) (e_iload dX10_layNotes_224 (i := 4) (x := z22) rfl k))) ?_
          refine ev_chk (fun h52 => ?_)
          refine ev_st (pc' := 227) (L' := [xR a, xI x24, xI y2, xI y3, xI z22, xI x26, xI 1]) (st' := [xI (R51 (a + 16) (z22).toNat)]) (fun _ _ _ k => e_iald dX10_layNotes_226 (kd10_16 h_a) h52.1 h52.2 k) ?_
          refine ev_br2 (P := 0 ≤ (R51 (a + 16) (z22).toNat)) (pct := 234) (pcf := 230) (st' := []) (fun _ _ _ kt kf => e_ifge dX10_layNotes_227 (tgt := 234) rfl kt kf) (fun h53 => ?_) (fun h53 => ?_)
          · refine ev_st (pc' := 240) (L' := [xR a, xI x24, xI y2, xI y3, xI z22, xI x26, xI 1]) (st' := [xI z22, xR (a + 16)]) (fun _ _ _ k => e_aload_n dX10_layNotes_234 rfl (i := 0) (x := a) rfl (e_getr dX10_layNotes_235 flX10_55 (kd10_0 h_a) rfl (rf10_0_30 h_a) (e_iload dX10_layNotes_238 (i := 4) (x := z22) rfl k))) ?_
            refine ev_chk (fun h54 => ?_)
            refine ev_st (pc' := 241) (L' := [xR a, xI x24, xI y2, xI y3, xI z22, xI x26, xI 1]) (st' := [xI (R51 (a + 16) (z22).toNat)]) (fun _ _ _ k => e_iald dX10_layNotes_240 (kd10_16 h_a) h54.1 h54.2 k) ?_
            refine ev_st (pc' := 244) (L' := [xR a, xI x24, xI y2, xI y3, xI z22, xI x26, xI 1]) (st' := [xI (w4 ((R51 (a + 16) (z22).toNat) + x26))]) (fun _ _ _ k => e_iload dX10_layNotes_241 (i := 5) (x := x26) rfl (e_iadd dX10_layNotes_243 k)) ?_
            refine ev_leti (fun x55 ex55 => ?_)
            refine ev_st (pc' := 245) (L' := [xR a, xI x24, xI x55, xI y3, xI z22, xI x26, xI 1]) (st' := []) (fun _ _ _ k => e_istore_n dX10_layNotes_244 rfl (i := 2) rfl (L' := [xR a, xI x24, xI x55, xI y3, xI z22, xI x26, xI 1]) rfl k) ?_
            refine ev_letx (fun x56 ex56 => ?_)
            refine ev_st (pc' := 248) (L' := [xR a, xI x24, xI x55, xI x56, xI z22, xI x26, xI 1]) (st' := []) (fun _ _ _ k => e_iinc dX10_layNotes_245 (i := 3) rfl (x := y3) rfl (y := x56) ex56 (L' := [xR a, xI x24, xI x55, xI x56, xI z22, xI x26, xI 1]) rfl k) ?_
            refine ev_st (pc' := 57) (L' := [xR a, xI x24, xI x55, xI x56, xU, xU, xU]) (st' := []) (fun _ _ _ k => e_goto dX10_layNotes_248 (tgt := 57) rfl (e_fg [4, 5, 6] k)) ?_
            exact ih x24 x55 x56 R51
          · refine ev_st (pc' := 245) (L' := [xR a, xI x24, xI y2, xI y3, xI z22, xI x26, xI 1]) (st' := []) (fun _ _ _ k => e_iload_n dX10_layNotes_230 rfl (i := 2) (x := y2) rfl (e_goto dX10_layNotes_231 (tgt := 244) rfl (e_istore_n dX10_layNotes_244 rfl (i := 2) rfl (L' := [xR a, xI x24, xI y2, xI y3, xI z22, xI x26, xI 1]) rfl k))) ?_
            refine ev_letx (fun x57 ex57 => ?_)
            refine ev_st (pc' := 248) (L' := [xR a, xI x24, xI y2, xI x57, xI z22, xI x26, xI 1]) (st' := []) (fun _ _ _ k => e_iinc dX10_layNotes_245 (i := 3) rfl (x := y3) rfl (y := x57) ex57 (L' := [xR a, xI x24, xI y2, xI x57, xI z22, xI x26, xI 1]) rfl k) ?_
            refine ev_st (pc' := 57) (L' := [xR a, xI x24, xI y2, xI x57, xU, xU, xU]) (st' := []) (fun _ _ _ k => e_goto dX10_layNotes_248 (tgt := 57) rfl (e_fg [4, 5, 6] k)) ?_
            exact ih x24 y2 x57 R51
        · refine ev_st (pc' := 214) (L' := [xR a, xI x24, xI y2, xI y3, xI z22, xI x26, xI 1]) (st' := [xI z22, xR (a + 16)]) (fun _ _ _ k => e_iload dX10_layNotes_209 (i := 6) (x := 1) rfl (e_ifeqF dX10_layNotes_211 (tgt := 218) rfl (by decide) k)) ?_
          refine ev_st (pc' := 219) (L' := [xR a, xI x24, xI y2, xI y3, xI z22, xI x26, xI 1]) (st' := [xI y2, xI z22, xR (a + 16)]) (fun _ _ _ k => e_iload_n dX10_layNotes_214 rfl (i := 2) (x := y2) rfl (e_goto dX10_layNotes_215 (tgt := 219) rfl k)) ?_
          refine ev_chk (fun h58 => ?_)
          refine ev_st (pc' := 220) (L' := [xR a, xI x24, xI y2, xI y3, xI z22, xI x26, xI 1]) (st' := []) (fun _ _ _ k => e_iast dX10_layNotes_219 (kd10_16 h_a) h58.1 h58.2 k) ?_
          refine ev_letR (fun R59 eR59 => ?_)
          refine ev_st (pc' := 226) (L' := [xR a, xI x24, xI y2, xI y3, xI z22, xI x26, xI 1]) (st' := [xI z22, xR (a + 16)]) (fun _ _ _ k => e_aload_n dX10_layNotes_220 rfl (i := 0) (x := a) rfl (e_getr dX10_layNotes_221 flX10_55 (kd10_0 h_a) rfl (rf10_0_30 h_a) (e_iload dX10_layNotes_224 (i := 4) (x := z22) rfl k))) ?_
          refine ev_chk (fun h60 => ?_)
          refine ev_st (pc' := 227) (L' := [xR a, xI x24, xI y2, xI y3, xI z22, xI x26, xI 1]) (st' := [xI (R59 (a + 16) (z22).toNat)]) (fun _ _ _ k => e_iald dX10_layNotes_226 (kd10_16 h_a) h60.1 h60.2 k) ?_
          refine ev_br2 (P := 0 ≤ (R59 (a + 16) (z22).toNat)) (pct := 234) (pcf := 230) (st' := []) (fun _ _ _ kt kf => e_ifge dX10_layNotes_227 (tgt := 234) rfl kt kf) (fun h61 => ?_) (fun h61 => ?_)
          · refine ev_st (pc' := 240) (L' := [xR a, xI x24, xI y2, xI y3, xI z22, xI x26, xI 1]) (st' := [xI z22, xR (a + 16)]) (fun _ _ _ k => e_aload_n dX10_layNotes_234 rfl (i := 0) (x := a) rfl (e_getr dX10_layNotes_235 flX10_55 (kd10_0 h_a) rfl (rf10_0_30 h_a) (e_iload dX10_layNotes_238 (i := 4) (x := z22) rfl k))) ?_
            refine ev_chk (fun h62 => ?_)
            refine ev_st (pc' := 241) (L' := [xR a, xI x24, xI y2, xI y3, xI z22, xI x26, xI 1]) (st' := [xI (R59 (a + 16) (z22).toNat)]) (fun _ _ _ k => e_iald dX10_layNotes_240 (kd10_16 h_a) h62.1 h62.2 k) ?_
            refine ev_st (pc' := 244) (L' := [xR a, xI x24, xI y2, xI y3, xI z22, xI x26, xI 1]) (st' := [xI (w4 ((R59 (a + 16) (z22).toNat) + x26))]) (fun _ _ _ k => e_iload dX10_layNotes_241 (i := 5) (x := x26) rfl (e_iadd dX10_layNotes_243 k)) ?_
            refine ev_leti (fun x63 ex63 => ?_)
            refine ev_st (pc' := 245) (L' := [xR a, xI x24, xI x63, xI y3, xI z22, xI x26, xI 1]) (st' := []) (fun _ _ _ k => e_istore_n dX10_layNotes_244 rfl (i := 2) rfl (L' := [xR a, xI x24, xI x63, xI y3, xI z22, xI x26, xI 1]) rfl k) ?_
            refine ev_letx (fun x64 ex64 => ?_)
            refine ev_st (pc' := 248) (L' := [xR a, xI x24, xI x63, xI x64, xI z22, xI x26, xI 1]) (st' := []) (fun _ _ _ k => e_iinc dX10_layNotes_245 (i := 3) rfl (x := y3) rfl (y := x64) ex64 (L' := [xR a, xI x24, xI x63, xI x64, xI z22, xI x26, xI 1]) rfl k) ?_
            refine ev_st (pc' := 57) (L' := [xR a, xI x24, xI x63, xI x64, xU, xU, xU]) (st' := []) (fun _ _ _ k => e_goto dX10_layNotes_248 (tgt := 57) rfl (e_fg [4, 5, 6] k)) ?_
            exact ih x24 x63 x64 R59
          · refine ev_st (pc' := 245) (L' := [xR a, xI x24, xI y2, xI y3, xI z22, xI x26, xI 1]) (st' := []) (fun _ _ _ k => e_iload_n dX10_layNotes_230 rfl (i := 2) (x := y2) rfl (e_goto dX10_layNotes_231 (tgt := 244) rfl (e_istore_n dX10_layNotes_244 rfl (i := 2) rfl (L' := [xR a, xI x24, xI y2, xI y3, xI z22, xI x26, xI 1]) rfl k))) ?_
            refine ev_letx (fun x65 ex65 => ?_)
            refine ev_st (pc' := 248) (L' := [xR a, xI x24, xI y2, xI x65, xI z22, xI x26, xI 1]) (st' := []) (fun _ _ _ k => e_iinc dX10_layNotes_245 (i := 3) rfl (x := y3) rfl (y := x65) ex65 (L' := [xR a, xI x24, xI y2, xI x65, xI z22, xI x26, xI 1]) rfl k) ?_
            refine ev_st (pc' := 57) (L' := [xR a, xI x24, xI y2, xI x65, xU, xU, xU]) (st' := []) (fun _ _ _ k => e_goto dX10_layNotes_248 (tgt := 57) rfl (e_fg [4, 5, 6] k)) ?_
            exact ih x24 y2 x65 R59
set_option maxRecDepth 20000 in
set_option maxHeartbeats 4000000 in
theorem c_X10_layNotes {l : Launch} {g : xG} {d : Nat} {A : xA} {R : xN} {a : Nat} (h_a : sh 10 A a)  : Ev l g (d + 3) mX10_layNotes 0 [xR a, xU, xU, xU, xU, xU, xU] [] A R (fun _ : xN => none) (fun v => v) (f_X10_layNotes a R) := by
  rw [f_X10_layNotes]
  refine ev_st (pc' := 5) (L' := [xR a, xU, xU, xU, xU, xU, xU]) (st' := []) (fun _ _ _ k => e_aload_n dX10_layNotes_0 rfl (i := 0) (x := a) rfl (e_iconst dX10_layNotes_1 (k4 rfl) (e_puti dX10_layNotes_2 flX10_335 (kd10_0 h_a) (Or.inl rfl) rfl k))) ?_
  refine ev_letR (fun R1 eR1 => ?_)
  refine ev_st (pc' := 7) (L' := [xR a, xI 0, xU, xU, xU, xU, xU]) (st' := []) (fun _ _ _ k => e_iconst dX10_layNotes_5 (k4 rfl) (e_istore_n dX10_layNotes_6 rfl (i := 1) rfl (L' := [xR a, xI 0, xU, xU, xU, xU, xU]) rfl k)) ?_
  refine lc_X10_layNotes_7 h_a (fun z10 R11 => ?_) 6000 0 R1
  refine ev_st (pc' := 57) (L' := [xR a, xI 0, xI 0, xI 0, xU, xU, xU]) (st' := []) (fun _ _ _ k => e_iconst dX10_layNotes_51 (k4 rfl) (e_istore_n dX10_layNotes_52 rfl (i := 1) rfl (L' := [xR a, xI 0, xU, xU, xU, xU, xU]) rfl (e_iconst dX10_layNotes_53 (k4 rfl) (e_istore_n dX10_layNotes_54 rfl (i := 2) rfl (L' := [xR a, xI 0, xI 0, xU, xU, xU, xU]) rfl (e_iconst dX10_layNotes_55 (k4 rfl) (e_istore_n dX10_layNotes_56 rfl (i := 3) rfl (L' := [xR a, xI 0, xI 0, xI 0, xU, xU, xU]) rfl k)))))) ?_
  refine lc_X10_layNotes_57 h_a (fun z66 z67 z68 R69 => ?_) 6000 0 0 0 R11
  exact ev_ret (e_vret dX10_layNotes_251)
def lp_X10_linesOn_30 (a : Nat) (p1 : Int) (p2 : Int) (p3 : Int) (R : xN) : Nat → Bool → Int → (Bool → Int → Option (Int × xN)) → Option (Int × xN)
  | 0, _, _, _ => none
  | n + 1, y4, y5, X =>
    if (R (a + 1) 37) ≤ y5 then
    X y4 y5
    else
    if y4 = true then
    xlet (w4 (y5 + 1)) (fun x5 =>
    lp_X10_linesOn_30 a p1 p2 p3 R n true x5 X)
    else
    if 0 ≤ y5 ∧ y5 < 12 then
    if (R (a + 16) (y5).toNat) < 0 then
    xlet (w4 (y5 + 1)) (fun x8 =>
    lp_X10_linesOn_30 a p1 p2 p3 R n false x8 X)
    else
    if 0 ≤ y5 ∧ y5 < 12 then
    if 0 ≤ y5 ∧ y5 < 12 then
    if 0 ≤ (w4 ((w4 (38 + (w4 (4 * y5)))) + 2)) ∧ (w4 ((w4 (38 + (w4 (4 * y5)))) + 2)) < 464 then
    (f_X10_in p3 (R (a + 16) (y5).toNat) (w4 ((w4 ((R (a + 16) (y5).toNat) + (R (a + 1) ((w4 ((w4 (38 + (w4 (4 * y5)))) + 2))).toNat))) - 1)) R).bind (fun v12 =>
    if v12 = true then
    xlet (w4 (y5 + 1)) (fun x14 =>
    lp_X10_linesOn_30 a p1 p2 p3 R n true x14 X)
    else
    xlet (w4 (y5 + 1)) (fun x15 =>
    lp_X10_linesOn_30 a p1 p2 p3 R n false x15 X))
    else none
    else none
    else none
    else none
def lp_X10_linesOn_8 (a : Nat) (p1 : Int) (R : xN) : Nat → Int → Int → (Int → Int → Option (Int × xN)) → Option (Int × xN)
  | 0, _, _, _ => none
  | n + 1, y2, y3, X =>
    if (w4 ((R a 28) * (R (a + 1) 11))) ≤ y3 then
    X y2 y3
    else
    lp_X10_linesOn_30 a p1 y2 y3 R 6000 false 0 (fun z16 z17 =>
    if z16 = true then
    if (R (a + 1) 11) ≠ 0 then
    if 0 ≤ (w4 (Int.tdiv y3 (R (a + 1) 11))) ∧ (w4 (Int.tdiv y3 (R (a + 1) 11))) < 32 then
    xlet (if (R (a + 15) ((w4 (Int.tdiv y3 (R (a + 1) 11)))).toNat) = p1 then 1 else 0) (fun t21 =>
    xlet (w4 (y2 + t21)) (fun x22 =>
    xlet (w4 (y3 + 1)) (fun x23 =>
    lp_X10_linesOn_8 a p1 R n x22 x23 X)))
    else none
    else none
    else
    xlet (w4 (y2 + 0)) (fun x24 =>
    xlet (w4 (y3 + 1)) (fun x25 =>
    lp_X10_linesOn_8 a p1 R n x24 x25 X)))
def f_X10_linesOn (a : Nat) (i0 : Int) (R : xN) : Option (Int × xN) :=
  (f_X10_layNotes a R).bind (fun v1 =>
  lp_X10_linesOn_8 a i0 v1 6000 0 0 (fun z26 z27 =>
  some (z26, v1)))
set_option maxRecDepth 20000 in
set_option maxHeartbeats 4000000 in
theorem lc_X10_linesOn_30 {l : Launch} {g : xG} {d : Nat} {A : xA} {a : Nat} (h_a : sh 10 A a) (p1 : Int) (p2 : Int) (p3 : Int) (R : xN) {X : Bool → Int → Option (Int × xN)} (hX : ∀ (y4 : Bool) (y5 : Int), Ev l g (d + 4) mX10_linesOn 111 [xR a, xI p1, xI p2, xI p3, xI (xz y4), xU] [] A R (fun v : Int × xN => some (xI v.1)) (fun v => v.2) (X y4 y5)) (n : Nat) (y4 : Bool) (y5 : Int) : Ev l g (d + 4) mX10_linesOn 30 [xR a, xI p1, xI p2, xI p3, xI (xz y4), xI y5] [] A R (fun v : Int × xN => some (xI v.1)) (fun v => v.2) (lp_X10_linesOn_30 a p1 p2 p3 R n y4 y5 X) := by
  induction n generalizing y4 y5 with
  | zero => exact ev_none
  | succ n ih =>
    rw [lp_X10_linesOn_30]
    refine ev_st (pc' := 39) (L' := [xR a, xI p1, xI p2, xI p3, xI (xz y4), xI y5]) (st' := [xI (R (a + 1) 37), xI y5]) (fun _ _ _ k => e_iload dX10_linesOn_30 (i := 5) (x := y5) rfl (e_aload_n dX10_linesOn_32 rfl (i := 0) (x := a) rfl (e_getr dX10_linesOn_33 flX10_7 (kd10_0 h_a) rfl (rf10_0_0 h_a) (e_bipush dX10_linesOn_36 rfl (k4 rfl) (e_iald dX10_linesOn_38 (kd10_1 h_a) (by decide) (by decide) k))))) ?_
    refine ev_br2 (P := (R (a + 1) 37) ≤ y5) (pct := 111) (pcf := 42) (st' := []) (fun _ _ _ kt kf => e_cge dX10_linesOn_39 (tgt := 111) rfl kt kf) (fun h3 => ?_) (fun h3 => ?_)
    · refine ev_st (pc' := 111) (L' := [xR a, xI p1, xI p2, xI p3, xI (xz y4), xU]) (st' := []) (fun _ _ _ k => e_fg [5] k) ?_
      exact hX y4 y5
    · refine ev_st (pc' := 44) (L' := [xR a, xI p1, xI p2, xI p3, xI (xz y4), xI y5]) (st' := [xI (xz y4)]) (fun _ _ _ k => e_iload dX10_linesOn_42 (i := 4) (x := (xz y4)) rfl k) ?_
      refine ev_br2 (P := y4 = true) (pct := 98) (pcf := 47) (st' := []) (fun _ _ _ kt kf => e_ifnez dX10_linesOn_44 (tgt := 98) rfl kt kf) (fun h4 => ?_) (fun h4 => ?_)
      · refine ev_st (pc' := 105) (L' := [xR a, xI p1, xI p2, xI p3, xI 1, xI y5]) (st' := []) (fun _ _ _ k => e_iconst dX10_linesOn_98 (k4 rfl) (e_goto dX10_linesOn_99 (tgt := 103) rfl (e_istore dX10_linesOn_103 (i := 4) rfl (L' := [xR a, xI p1, xI p2, xI p3, xI 1, xI y5]) rfl k))) ?_
        refine ev_letx (fun x5 ex5 => ?_)
        refine ev_st (pc' := 108) (L' := [xR a, xI p1, xI p2, xI p3, xI 1, xI x5]) (st' := []) (fun _ _ _ k => e_iinc dX10_linesOn_105 (i := 5) rfl (x := y5) rfl (y := x5) ex5 (L' := [xR a, xI p1, xI p2, xI p3, xI 1, xI x5]) rfl k) ?_
        refine ev_st (pc' := 30) (L' := [xR a, xI p1, xI p2, xI p3, xI 1, xI x5]) (st' := []) (fun _ _ _ k => e_goto dX10_linesOn_108 (tgt := 30) rfl k) ?_
        exact ih true x5
      · refine ev_st (pc' := 53) (L' := [xR a, xI p1, xI p2, xI p3, xI (xz y4), xI y5]) (st' := [xI y5, xR (a + 16)]) (fun _ _ _ k => e_aload_n dX10_linesOn_47 rfl (i := 0) (x := a) rfl (e_getr dX10_linesOn_48 flX10_55 (kd10_0 h_a) rfl (rf10_0_30 h_a) (e_iload dX10_linesOn_51 (i := 5) (x := y5) rfl k))) ?_
        refine ev_chk (fun h6 => ?_)
        refine ev_st (pc' := 54) (L' := [xR a, xI p1, xI p2, xI p3, xI (xz y4), xI y5]) (st' := [xI (R (a + 16) (y5).toNat)]) (fun _ _ _ k => e_iald dX10_linesOn_53 (kd10_16 h_a) h6.1 h6.2 k) ?_
        refine ev_br2 (P := (R (a + 16) (y5).toNat) < 0) (pct := 102) (pcf := 57) (st' := []) (fun _ _ _ kt kf => e_iflt dX10_linesOn_54 (tgt := 102) rfl kt kf) (fun h7 => ?_) (fun h7 => ?_)
        · refine ev_st (pc' := 105) (L' := [xR a, xI p1, xI p2, xI p3, xI 0, xI y5]) (st' := []) (fun _ _ _ k => e_iconst dX10_linesOn_102 (k4 rfl) (e_istore dX10_linesOn_103 (i := 4) rfl (L' := [xR a, xI p1, xI p2, xI p3, xI 0, xI y5]) rfl k)) ?_
          refine ev_letx (fun x8 ex8 => ?_)
          refine ev_st (pc' := 108) (L' := [xR a, xI p1, xI p2, xI p3, xI 0, xI x8]) (st' := []) (fun _ _ _ k => e_iinc dX10_linesOn_105 (i := 5) rfl (x := y5) rfl (y := x8) ex8 (L' := [xR a, xI p1, xI p2, xI p3, xI 0, xI x8]) rfl k) ?_
          refine ev_st (pc' := 30) (L' := [xR a, xI p1, xI p2, xI p3, xI 0, xI x8]) (st' := []) (fun _ _ _ k => e_goto dX10_linesOn_108 (tgt := 30) rfl k) ?_
          exact ih false x8
        · refine ev_st (pc' := 65) (L' := [xR a, xI p1, xI p2, xI p3, xI (xz y4), xI y5]) (st' := [xI y5, xR (a + 16), xL p3]) (fun _ _ _ k => e_iload_n dX10_linesOn_57 rfl (i := 3) (x := p3) rfl (e_i2l dX10_linesOn_58 (e_aload_n dX10_linesOn_59 rfl (i := 0) (x := a) rfl (e_getr dX10_linesOn_60 flX10_55 (kd10_0 h_a) rfl (rf10_0_30 h_a) (e_iload dX10_linesOn_63 (i := 5) (x := y5) rfl k))))) ?_
          refine ev_chk (fun h9 => ?_)
          refine ev_st (pc' := 66) (L' := [xR a, xI p1, xI p2, xI p3, xI (xz y4), xI y5]) (st' := [xI (R (a + 16) (y5).toNat), xL p3]) (fun _ _ _ k => e_iald dX10_linesOn_65 (kd10_16 h_a) h9.1 h9.2 k) ?_
          refine ev_st (pc' := 73) (L' := [xR a, xI p1, xI p2, xI p3, xI (xz y4), xI y5]) (st' := [xI y5, xR (a + 16), xL (R (a + 16) (y5).toNat), xL p3]) (fun _ _ _ k => e_i2l dX10_linesOn_66 (e_aload_n dX10_linesOn_67 rfl (i := 0) (x := a) rfl (e_getr dX10_linesOn_68 flX10_55 (kd10_0 h_a) rfl (rf10_0_30 h_a) (e_iload dX10_linesOn_71 (i := 5) (x := y5) rfl k)))) ?_
          refine ev_chk (fun h10 => ?_)
          refine ev_st (pc' := 74) (L' := [xR a, xI p1, xI p2, xI p3, xI (xz y4), xI y5]) (st' := [xI (R (a + 16) (y5).toNat), xL (R (a + 16) (y5).toNat), xL p3]) (fun _ _ _ k => e_iald dX10_linesOn_73 (kd10_16 h_a) h10.1 h10.2 k) ?_
          refine ev_st (pc' := 87) (L' := [xR a, xI p1, xI p2, xI p3, xI (xz y4), xI y5]) (st' := [xI (w4 ((w4 (38 + (w4 (4 * y5)))) + 2)), xR (a + 1), xI (R (a + 16) (y5).toNat), xL (R (a + 16) (y5).toNat), xL p3]) (fun _ _ _ k => e_aload_n dX10_linesOn_74 rfl (i := 0) (x := a) rfl (e_getr dX10_linesOn_75 flX10_7 (kd10_0 h_a) rfl (rf10_0_0 h_a) (e_bipush dX10_linesOn_78 rfl (k4 rfl) (e_iconst dX10_linesOn_80 (k4 rfl) (e_iload dX10_linesOn_81 (i := 5) (x := y5) rfl (e_imul dX10_linesOn_83 (e_iadd dX10_linesOn_84 (e_iconst dX10_linesOn_85 (k4 rfl) (e_iadd dX10_linesOn_86 k))))))))) ?_
          refine ev_chk (fun h11 => ?_)
          refine ev_st (pc' := 88) (L' := [xR a, xI p1, xI p2, xI p3, xI (xz y4), xI y5]) (st' := [xI (R (a + 1) ((w4 ((w4 (38 + (w4 (4 * y5)))) + 2))).toNat), xI (R (a + 16) (y5).toNat), xL (R (a + 16) (y5).toNat), xL p3]) (fun _ _ _ k => e_iald dX10_linesOn_87 (kd10_1 h_a) h11.1 h11.2 k) ?_
          refine ev_st (pc' := 92) (L' := [xR a, xI p1, xI p2, xI p3, xI (xz y4), xI y5]) (st' := [xL (w4 ((w4 ((R (a + 16) (y5).toNat) + (R (a + 1) ((w4 ((w4 (38 + (w4 (4 * y5)))) + 2))).toNat))) - 1)), xL (R (a + 16) (y5).toNat), xL p3]) (fun _ _ _ k => e_iadd dX10_linesOn_88 (e_iconst dX10_linesOn_89 (k4 rfl) (e_isub dX10_linesOn_90 (e_i2l dX10_linesOn_91 k)))) ?_
          refine ev_callS (As := [xL p3, xL (R (a + 16) (y5).toNat), xL (w4 ((w4 ((R (a + 16) (y5).toNat) + (R (a + 1) ((w4 ((w4 (38 + (w4 (4 * y5)))) + 2))).toNat))) - 1))]) (st := []) (fun v12 => [xI (xz v12)]) dX10_linesOn_92 mlX10_101 rfl rfl rfl rfl rfl rfl (c_X10_in (d := d + 3) p3 (R (a + 16) (y5).toNat) (w4 ((w4 ((R (a + 16) (y5).toNat) + (R (a + 1) ((w4 ((w4 (38 + (w4 (4 * y5)))) + 2))).toNat))) - 1))) (fun _ => xz01 _) (fun _ => rfl) (fun v12 => ?_)
          refine ev_br2 (P := v12 = true) (pct := 98) (pcf := 102) (st' := []) (fun _ _ _ kt kf => e_ifeqz dX10_linesOn_95 (tgt := 102) rfl kt kf) (fun h13 => ?_) (fun h13 => ?_)
          · refine ev_st (pc' := 105) (L' := [xR a, xI p1, xI p2, xI p3, xI 1, xI y5]) (st' := []) (fun _ _ _ k => e_iconst dX10_linesOn_98 (k4 rfl) (e_goto dX10_linesOn_99 (tgt := 103) rfl (e_istore dX10_linesOn_103 (i := 4) rfl (L' := [xR a, xI p1, xI p2, xI p3, xI 1, xI y5]) rfl k))) ?_
            refine ev_letx (fun x14 ex14 => ?_)
            refine ev_st (pc' := 108) (L' := [xR a, xI p1, xI p2, xI p3, xI 1, xI x14]) (st' := []) (fun _ _ _ k => e_iinc dX10_linesOn_105 (i := 5) rfl (x := y5) rfl (y := x14) ex14 (L' := [xR a, xI p1, xI p2, xI p3, xI 1, xI x14]) rfl k) ?_
            refine ev_st (pc' := 30) (L' := [xR a, xI p1, xI p2, xI p3, xI 1, xI x14]) (st' := []) (fun _ _ _ k => e_goto dX10_linesOn_108 (tgt := 30) rfl k) ?_
            exact ih true x14
          · refine ev_st (pc' := 105) (L' := [xR a, xI p1, xI p2, xI p3, xI 0, xI y5]) (st' := []) (fun _ _ _ k => e_iconst dX10_linesOn_102 (k4 rfl) (e_istore dX10_linesOn_103 (i := 4) rfl (L' := [xR a, xI p1, xI p2, xI p3, xI 0, xI y5]) rfl k)) ?_
            refine ev_letx (fun x15 ex15 => ?_)
            refine ev_st (pc' := 108) (L' := [xR a, xI p1, xI p2, xI p3, xI 0, xI x15]) (st' := []) (fun _ _ _ k => e_iinc dX10_linesOn_105 (i := 5) rfl (x := y5) rfl (y := x15) ex15 (L' := [xR a, xI p1, xI p2, xI p3, xI 0, xI x15]) rfl k) ?_
            refine ev_st (pc' := 30) (L' := [xR a, xI p1, xI p2, xI p3, xI 0, xI x15]) (st' := []) (fun _ _ _ k => e_goto dX10_linesOn_108 (tgt := 30) rfl k) ?_
            exact ih false x15
set_option maxRecDepth 20000 in
set_option maxHeartbeats 4000000 in
theorem lc_X10_linesOn_8 {l : Launch} {g : xG} {d : Nat} {A : xA} {a : Nat} (h_a : sh 10 A a) (p1 : Int) (R : xN) {X : Int → Int → Option (Int × xN)} (hX : ∀ (y2 : Int) (y3 : Int), Ev l g (d + 4) mX10_linesOn 148 [xU, xU, xI y2, xU, xU, xU] [] A R (fun v : Int × xN => some (xI v.1)) (fun v => v.2) (X y2 y3)) (n : Nat) (y2 : Int) (y3 : Int) : Ev l g (d + 4) mX10_linesOn 8 [xR a, xI p1, xI y2, xI y3, xU, xU] [] A R (fun v : Int × xN => some (xI v.1)) (fun v => v.2) (lp_X10_linesOn_8 a p1 R n y2 y3 X) := by
  induction n generalizing y2 y3 with
  | zero => exact ev_none
  | succ n ih =>
    rw [lp_X10_linesOn_8]
    refine ev_st (pc' := 21) (L' := [xR a, xI p1, xI y2, xI y3, xU, xU]) (st' := [xI (w4 ((R a 28) * (R (a + 1) 11))), xI y3]) (fun _ _ _ k => e_iload_n dX10_linesOn_8 rfl (i := 3) (x := y3) rfl (e_aload_n dX10_linesOn_9 rfl (i := 0) (x := a) rfl (e_geti dX10_linesOn_10 flX10_335 (kd10_0 h_a) (Or.inl rfl) (e_aload_n dX10_linesOn_13 rfl (i := 0) (x := a) rfl (e_getr dX10_linesOn_14 flX10_7 (kd10_0 h_a) rfl (rf10_0_0 h_a) (e_bipush dX10_linesOn_17 rfl (k4 rfl) (e_iald dX10_linesOn_19 (kd10_1 h_a) (by decide) (by decide) (e_imul dX10_linesOn_20 k)))))))) ?_
    refine ev_br2 (P := (w4 ((R a 28) * (R (a + 1) 11))) ≤ y3) (pct := 148) (pcf := 24) (st' := []) (fun _ _ _ kt kf => e_cge dX10_linesOn_21 (tgt := 148) rfl kt kf) (fun h2 => ?_) (fun h2 => ?_)
    · refine ev_st (pc' := 148) (L' := [xU, xU, xI y2, xU, xU, xU]) (st' := []) (fun _ _ _ k => e_fg [0, 1, 3] k) ?_
      exact hX y2 y3
    · refine ev_st (pc' := 30) (L' := [xR a, xI p1, xI y2, xI y3, xI 0, xI 0]) (st' := []) (fun _ _ _ k => e_iconst dX10_linesOn_24 (k4 rfl) (e_istore dX10_linesOn_25 (i := 4) rfl (L' := [xR a, xI p1, xI y2, xI y3, xI 0, xU]) rfl (e_iconst dX10_linesOn_27 (k4 rfl) (e_istore dX10_linesOn_28 (i := 5) rfl (L' := [xR a, xI p1, xI y2, xI y3, xI 0, xI 0]) rfl k)))) ?_
      refine lc_X10_linesOn_30 h_a p1 y2 y3 R (fun z16 z17 => ?_) 6000 false 0
      refine ev_st (pc' := 114) (L' := [xR a, xI p1, xI y2, xI y3, xI (xz z16), xU]) (st' := [xI (xz z16), xI y2]) (fun _ _ _ k => e_iload_n dX10_linesOn_111 rfl (i := 2) (x := y2) rfl (e_iload dX10_linesOn_112 (i := 4) (x := (xz z16)) rfl k)) ?_
      refine ev_br2 (P := z16 = true) (pct := 117) (pcf := 139) (st' := [xI y2]) (fun _ _ _ kt kf => e_ifeqz dX10_linesOn_114 (tgt := 139) rfl kt kf) (fun h18 => ?_) (fun h18 => ?_)
      · refine ev_st (pc' := 129) (L' := [xR a, xI p1, xI y2, xI y3, xI (xz z16), xU]) (st' := [xI (R (a + 1) 11), xI y3, xR (a + 15), xI y2]) (fun _ _ _ k => e_aload_n dX10_linesOn_117 rfl (i := 0) (x := a) rfl (e_getr dX10_linesOn_118 flX10_52 (kd10_0 h_a) rfl (rf10_0_29 h_a) (e_iload_n dX10_linesOn_121 rfl (i := 3) (x := y3) rfl (e_aload_n dX10_linesOn_122 rfl (i := 0) (x := a) rfl (e_getr dX10_linesOn_123 flX10_7 (kd10_0 h_a) rfl (rf10_0_0 h_a) (e_bipush dX10_linesOn_126 rfl (k4 rfl) (e_iald dX10_linesOn_128 (kd10_1 h_a) (by decide) (by decide) k))))))) ?_
        refine ev_chk (fun h19 => ?_)
        refine ev_st (pc' := 130) (L' := [xR a, xI p1, xI y2, xI y3, xI (xz z16), xU]) (st' := [xI (w4 (Int.tdiv y3 (R (a + 1) 11))), xR (a + 15), xI y2]) (fun _ _ _ k => e_idiv dX10_linesOn_129 h19 k) ?_
        refine ev_chk (fun h20 => ?_)
        refine ev_st (pc' := 131) (L' := [xR a, xI p1, xI y2, xI y3, xI (xz z16), xU]) (st' := [xI (R (a + 15) ((w4 (Int.tdiv y3 (R (a + 1) 11)))).toNat), xI y2]) (fun _ _ _ k => e_iald dX10_linesOn_130 (kd10_15 h_a) h20.1 h20.2 k) ?_
        refine ev_st (pc' := 132) (L' := [xR a, xI p1, xI y2, xI y3, xI (xz z16), xU]) (st' := [xI p1, xI (R (a + 15) ((w4 (Int.tdiv y3 (R (a + 1) 11)))).toNat), xI y2]) (fun _ _ _ k => e_iload_n dX10_linesOn_131 rfl (i := 1) (x := p1) rfl k) ?_
        refine ev_tern (P := (R (a + 15) ((w4 (Int.tdiv y3 (R (a + 1) 11)))).toNat) = p1) (a := 1) (b := 0) (pct := 135) (pcf := 139) (J := 140) (st' := [xI y2]) (fun _ _ _ kt kf => e_cne dX10_linesOn_132 (tgt := 139) rfl kt kf) (fun _ _ _ k => e_iconst dX10_linesOn_135 (k4 rfl) (e_goto dX10_linesOn_136 (tgt := 140) rfl k)) (fun _ _ _ k => e_iconst dX10_linesOn_139 (k4 rfl) k) (fun t21 et21 => ?_)
        refine ev_st (pc' := 141) (L' := [xR a, xI p1, xI y2, xI y3, xI (xz z16), xU]) (st' := [xI (w4 (y2 + t21))]) (fun _ _ _ k => e_iadd dX10_linesOn_140 k) ?_
        refine ev_leti (fun x22 ex22 => ?_)
        refine ev_st (pc' := 142) (L' := [xR a, xI p1, xI x22, xI y3, xI (xz z16), xU]) (st' := []) (fun _ _ _ k => e_istore_n dX10_linesOn_141 rfl (i := 2) rfl (L' := [xR a, xI p1, xI x22, xI y3, xI (xz z16), xU]) rfl k) ?_
        refine ev_letx (fun x23 ex23 => ?_)
        refine ev_st (pc' := 145) (L' := [xR a, xI p1, xI x22, xI x23, xI (xz z16), xU]) (st' := []) (fun _ _ _ k => e_iinc dX10_linesOn_142 (i := 3) rfl (x := y3) rfl (y := x23) ex23 (L' := [xR a, xI p1, xI x22, xI x23, xI (xz z16), xU]) rfl k) ?_
        refine ev_st (pc' := 8) (L' := [xR a, xI p1, xI x22, xI x23, xU, xU]) (st' := []) (fun _ _ _ k => e_goto dX10_linesOn_145 (tgt := 8) rfl (e_fg [4] k)) ?_
        exact ih x22 x23
      · refine ev_st (pc' := 141) (L' := [xR a, xI p1, xI y2, xI y3, xI (xz z16), xU]) (st' := [xI (w4 (y2 + 0))]) (fun _ _ _ k => e_iconst dX10_linesOn_139 (k4 rfl) (e_iadd dX10_linesOn_140 k)) ?_
        refine ev_leti (fun x24 ex24 => ?_)
        refine ev_st (pc' := 142) (L' := [xR a, xI p1, xI x24, xI y3, xI (xz z16), xU]) (st' := []) (fun _ _ _ k => e_istore_n dX10_linesOn_141 rfl (i := 2) rfl (L' := [xR a, xI p1, xI x24, xI y3, xI (xz z16), xU]) rfl k) ?_
        refine ev_letx (fun x25 ex25 => ?_)
        refine ev_st (pc' := 145) (L' := [xR a, xI p1, xI x24, xI x25, xI (xz z16), xU]) (st' := []) (fun _ _ _ k => e_iinc dX10_linesOn_142 (i := 3) rfl (x := y3) rfl (y := x25) ex25 (L' := [xR a, xI p1, xI x24, xI x25, xI (xz z16), xU]) rfl k) ?_
        refine ev_st (pc' := 8) (L' := [xR a, xI p1, xI x24, xI x25, xU, xU]) (st' := []) (fun _ _ _ k => e_goto dX10_linesOn_145 (tgt := 8) rfl (e_fg [4] k)) ?_
        exact ih x24 x25
set_option maxRecDepth 20000 in
set_option maxHeartbeats 4000000 in
theorem c_X10_linesOn {l : Launch} {g : xG} {d : Nat} {A : xA} {R : xN} {a : Nat} (h_a : sh 10 A a) (i0 : Int) : Ev l g (d + 4) mX10_linesOn 0 [xR a, xI i0, xU, xU, xU, xU] [] A R (fun v : Int × xN => some (xI v.1)) (fun v => v.2) (f_X10_linesOn a i0 R) := by
  rw [f_X10_linesOn]
  refine ev_st (pc' := 1) (L' := [xR a, xI i0, xU, xU, xU, xU]) (st' := [xR a]) (fun _ _ _ k => e_aload_n dX10_linesOn_0 rfl (i := 0) (x := a) rfl k) ?_
  refine ev_callV (As := []) (st := []) (fun v1 => []) dX10_linesOn_1 mlX10_347 (kd10_0 h_a) rfl rfl rfl rfl rfl rfl (c_X10_layNotes (d := d) h_a) (fun _ => trivial) (fun _ => rfl) (fun v1 => ?_)
  refine ev_st (pc' := 8) (L' := [xR a, xI i0, xI 0, xI 0, xU, xU]) (st' := []) (fun _ _ _ k => e_iconst dX10_linesOn_4 (k4 rfl) (e_istore_n dX10_linesOn_5 rfl (i := 2) rfl (L' := [xR a, xI i0, xI 0, xU, xU, xU]) rfl (e_iconst dX10_linesOn_6 (k4 rfl) (e_istore_n dX10_linesOn_7 rfl (i := 3) rfl (L' := [xR a, xI i0, xI 0, xI 0, xU, xU]) rfl k)))) ?_
  refine lc_X10_linesOn_8 h_a i0 v1 (fun z26 z27 => ?_) 6000 0 0
  exact ev_ret (e_iload_n dX10_linesOn_148 rfl (i := 2) (x := z26) rfl (e_iret dX10_linesOn_149))
