def f_X10_page (a : Nat) (i0 : Int) (i1 : Int) (R : xN) : Option (Int × xN) :=
  (f_X10_isBooklet a R).bind (fun v1 =>
  if v1.1 = true then
  (f_X10_in i0 0 (w4 ((w4 (2 * (v1.2 a 9))) - 1)) v1.2).bind (fun v3 =>
  if v3 = true then
  (f_X10_in i1 0 7 v1.2).bind (fun v5 =>
  if v5 = true then
  (f_X10_sideOf a i0 v1.2).bind (fun v7 =>
  if 0 ≤ (w4 (90 + v7)) ∧ (w4 (90 + v7)) < 464 then
  if 0 ≤ (v1.2 (a + 1) ((w4 (90 + v7))).toNat) then
  if i1 = 0 then
  if (v1.2 (a + 1) 1) ≠ 0 then
  some ((w4 (Int.tdiv (w4 (Int.tdiv v7 2)) (v1.2 (a + 1) 1))), v1.2)
  else none
  else
  if i1 = 1 then
  if (v1.2 (a + 1) 1) ≠ 0 then
  some ((Int.tmod (w4 (Int.tdiv v7 2)) (v1.2 (a + 1) 1)), v1.2)
  else none
  else
  if i1 = 2 then
  some ((Int.tmod v7 2), v1.2)
  else
  if i1 = 3 then
  if 0 ≤ (w4 (90 + v7)) ∧ (w4 (90 + v7)) < 464 then
  some ((v1.2 (a + 1) ((w4 (90 + v7))).toNat), v1.2)
  else none
  else
  if i1 = 4 then
  (f_X10_isUpright a i0 v1.2).bind (fun v18 =>
  if v18 = true then
  some (1, v1.2)
  else
  some (0, v1.2))
  else
  if i1 = 5 then
  (f_X10_isHidden a i0 v1.2).bind (fun v21 =>
  if v21 = true then
  some (1, v1.2)
  else
  some (0, v1.2))
  else
  if i1 = 6 then
  (f_X10_isHidden a i0 v1.2).bind (fun v24 =>
  if v24 = true then
  some (0, v1.2)
  else
  (f_X10_isItsOwn a i0 v1.2).bind (fun v26 =>
  if v26 = true then
  some (1, v1.2)
  else
  some (0, v1.2)))
  else
  (f_X10_linesOn a i0 v1.2).bind (fun v28 =>
  some (v28.1, v28.2))
  else
  if i1 = 0 then
  if (v1.2 (a + 1) 1) ≠ 0 then
  some ((w4 (Int.tdiv (w4 (Int.tdiv v7 2)) (v1.2 (a + 1) 1))), v1.2)
  else none
  else
  if i1 = 1 then
  if (v1.2 (a + 1) 1) ≠ 0 then
  some ((Int.tmod (w4 (Int.tdiv v7 2)) (v1.2 (a + 1) 1)), v1.2)
  else none
  else
  if i1 = 2 then
  some ((Int.tmod v7 2), v1.2)
  else
  if i1 = 3 then
  some ((-9), v1.2)
  else
  if i1 = 4 then
  some ((-9), v1.2)
  else
  if i1 = 5 then
  (f_X10_isHidden a i0 v1.2).bind (fun v37 =>
  if v37 = true then
  some (1, v1.2)
  else
  some (0, v1.2))
  else
  if i1 = 6 then
  (f_X10_isHidden a i0 v1.2).bind (fun v40 =>
  if v40 = true then
  some (0, v1.2)
  else
  (f_X10_isItsOwn a i0 v1.2).bind (fun v42 =>
  if v42 = true then
  some (1, v1.2)
  else
  some (0, v1.2)))
  else
  (f_X10_linesOn a i0 v1.2).bind (fun v44 =>
  some (v44.1, v44.2))
  else none)
  else
  some ((-1), v1.2))
  else
  some ((-1), v1.2))
  else
  some ((-2), v1.2))
set_option maxRecDepth 20000 in
set_option maxHeartbeats 4000000 in
theorem c_X10_page {l : Launch} {g : xG} {d : Nat} {A : xA} {R : xN} {a : Nat} (h_a : sh 10 A a) (i0 : Int) (i1 : Int) : Ev l g (d + 5) mX10_page 0 [xR a, xI i0, xI i1, xU, xU] [] A R (fun v : Int × xN => some (xI v.1)) (fun v => v.2) (f_X10_page a i0 i1 R) := by
  rw [f_X10_page]
  refine ev_st (pc' := 1) (L' := [xR a, xI i0, xI i1, xU, xU]) (st' := [xR a]) (fun _ _ _ k => e_aload_n dX10_page_0 rfl (i := 0) (x := a) rfl k) ?_
  refine ev_callV (As := []) (st := []) (fun v1 => [xI (xz v1.1)]) dX10_page_1 mlX10_162 (kd10_0 h_a) rfl rfl rfl rfl rfl rfl (c_X10_isBooklet (d := d + 1) h_a) (fun _ => xz01 _) (fun _ => rfl) (fun v1 => ?_)
  refine ev_br2 (P := v1.1 = true) (pct := 10) (pcf := 7) (st' := []) (fun _ _ _ kt kf => e_ifnez dX10_page_4 (tgt := 10) rfl kt kf) (fun h2 => ?_) (fun h2 => ?_)
  · refine ev_st (pc' := 22) (L' := [xR a, xI i0, xI i1, xU, xU]) (st' := [xL (w4 ((w4 (2 * (v1.2 a 9))) - 1)), xL 0, xL i0]) (fun _ _ _ k => e_iload_n dX10_page_10 rfl (i := 1) (x := i0) rfl (e_i2l dX10_page_11 (e_lconst dX10_page_12 (i := 0) rfl (k8 rfl) (e_iconst dX10_page_13 (k4 rfl) (e_aload_n dX10_page_14 rfl (i := 0) (x := a) rfl (e_geti dX10_page_15 flX10_78 (kd10_0 h_a) (Or.inl rfl) (e_imul dX10_page_18 (e_iconst dX10_page_19 (k4 rfl) (e_isub dX10_page_20 (e_i2l dX10_page_21 k)))))))))) ?_
    refine ev_callS (As := [xL i0, xL 0, xL (w4 ((w4 (2 * (v1.2 a 9))) - 1))]) (st := []) (fun v3 => [xI (xz v3)]) dX10_page_22 mlX10_101 rfl rfl rfl rfl rfl rfl (c_X10_in (d := d + 4) i0 0 (w4 ((w4 (2 * (v1.2 a 9))) - 1))) (fun _ => xz01 _) (fun _ => rfl) (fun v3 => ?_)
    refine ev_br2 (P := v3 = true) (pct := 28) (pcf := 40) (st' := []) (fun _ _ _ kt kf => e_ifeqz dX10_page_25 (tgt := 40) rfl kt kf) (fun h4 => ?_) (fun h4 => ?_)
    · refine ev_st (pc' := 34) (L' := [xR a, xI i0, xI i1, xU, xU]) (st' := [xL 7, xL 0, xL i1]) (fun _ _ _ k => e_iload_n dX10_page_28 rfl (i := 2) (x := i1) rfl (e_i2l dX10_page_29 (e_lconst dX10_page_30 (i := 0) rfl (k8 rfl) (e_ldc2 dX10_page_31 ckX10_318 (k8 rfl) k)))) ?_
      refine ev_callS (As := [xL i1, xL 0, xL 7]) (st := []) (fun v5 => [xI (xz v5)]) dX10_page_34 mlX10_101 rfl rfl rfl rfl rfl rfl (c_X10_in (d := d + 4) i1 0 7) (fun _ => xz01 _) (fun _ => rfl) (fun v5 => ?_)
      refine ev_br2 (P := v5 = true) (pct := 42) (pcf := 40) (st' := []) (fun _ _ _ kt kf => e_ifnez dX10_page_37 (tgt := 42) rfl kt kf) (fun h6 => ?_) (fun h6 => ?_)
      · refine ev_st (pc' := 44) (L' := [xR a, xI i0, xI i1, xU, xU]) (st' := [xI i0, xR a]) (fun _ _ _ k => e_aload_n dX10_page_42 rfl (i := 0) (x := a) rfl (e_iload_n dX10_page_43 rfl (i := 1) (x := i0) rfl k)) ?_
        refine ev_callV (As := [xI i0]) (st := []) (fun v7 => [xI v7]) dX10_page_44 mlX10_113 (kd10_0 h_a) rfl rfl rfl rfl rfl rfl (c_X10_sideOf (d := d + 4) h_a i0) (fun _ => trivial) (fun _ => rfl) (fun v7 => ?_)
        refine ev_st (pc' := 56) (L' := [xR a, xI i0, xI i1, xI v7, xU]) (st' := [xI (w4 (90 + v7)), xR (a + 1)]) (fun _ _ _ k => e_istore_n dX10_page_47 rfl (i := 3) rfl (L' := [xR a, xI i0, xI i1, xI v7, xU]) rfl (e_aload_n dX10_page_48 rfl (i := 0) (x := a) rfl (e_getr dX10_page_49 flX10_7 (kd10_0 h_a) rfl (rf10_0_0 h_a) (e_bipush dX10_page_52 rfl (k4 rfl) (e_iload_n dX10_page_54 rfl (i := 3) (x := v7) rfl (e_iadd dX10_page_55 k)))))) ?_
        refine ev_chk (fun h8 => ?_)
        refine ev_st (pc' := 57) (L' := [xR a, xI i0, xI i1, xI v7, xU]) (st' := [xI (v1.2 (a + 1) ((w4 (90 + v7))).toNat)]) (fun _ _ _ k => e_iald dX10_page_56 (kd10_1 h_a) h8.1 h8.2 k) ?_
        refine ev_br2 (P := 0 ≤ (v1.2 (a + 1) ((w4 (90 + v7))).toNat)) (pct := 64) (pcf := 60) (st' := []) (fun _ _ _ kt kf => e_ifge dX10_page_57 (tgt := 64) rfl kt kf) (fun h9 => ?_) (fun h9 => ?_)
        · refine ev_st (pc' := 68) (L' := [xR a, xI i0, xI i1, xI v7, xI 0]) (st' := [xI i1]) (fun _ _ _ k => e_iconst dX10_page_64 (k4 rfl) (e_istore dX10_page_65 (i := 4) rfl (L' := [xR a, xI i0, xI i1, xI v7, xI 0]) rfl (e_iload_n dX10_page_67 rfl (i := 2) (x := i1) rfl k))) ?_
          refine ev_ite (P := i1 = 0) (fun h10 => ?_) (fun h10 => ?_)
          · refine ev_st (pc' := 112) (L' := [xR a, xI i0, xI i1, xI v7, xI 0]) (st' := []) (fun _ _ _ k => e_tin dX10_page_68 (tgt := 112) (off := 44) (by omega) (by omega) (by rw [h10]; rfl) rfl k) ?_
            refine ev_st (pc' := 121) (L' := [xR a, xI i0, xI i1, xI v7, xI 0]) (st' := [xI (v1.2 (a + 1) 1), xI (w4 (Int.tdiv v7 2))]) (fun _ _ _ k => e_iload_n dX10_page_112 rfl (i := 3) (x := v7) rfl (e_iconst dX10_page_113 (k4 rfl) (e_idiv dX10_page_114 (by decide) (e_aload_n dX10_page_115 rfl (i := 0) (x := a) rfl (e_getr dX10_page_116 flX10_7 (kd10_0 h_a) rfl (rf10_0_0 h_a) (e_iconst dX10_page_119 (k4 rfl) (e_iald dX10_page_120 (kd10_1 h_a) (by decide) (by decide) k))))))) ?_
            refine ev_chk (fun h11 => ?_)
            refine ev_st (pc' := 122) (L' := [xR a, xI i0, xI i1, xI v7, xI 0]) (st' := [xI (w4 (Int.tdiv (w4 (Int.tdiv v7 2)) (v1.2 (a + 1) 1)))]) (fun _ _ _ k => e_idiv dX10_page_121 h11 k) ?_
            exact ev_ret (e_iret dX10_page_122)
          refine ev_ite (P := i1 = 1) (fun h12 => ?_) (fun h12 => ?_)
          · refine ev_st (pc' := 123) (L' := [xR a, xI i0, xI i1, xI v7, xI 0]) (st' := []) (fun _ _ _ k => e_tin dX10_page_68 (tgt := 123) (off := 55) (by omega) (by omega) (by rw [h12]; rfl) rfl k) ?_
            refine ev_st (pc' := 132) (L' := [xR a, xI i0, xI i1, xI v7, xI 0]) (st' := [xI (v1.2 (a + 1) 1), xI (w4 (Int.tdiv v7 2))]) (fun _ _ _ k => e_iload_n dX10_page_123 rfl (i := 3) (x := v7) rfl (e_iconst dX10_page_124 (k4 rfl) (e_idiv dX10_page_125 (by decide) (e_aload_n dX10_page_126 rfl (i := 0) (x := a) rfl (e_getr dX10_page_127 flX10_7 (kd10_0 h_a) rfl (rf10_0_0 h_a) (e_iconst dX10_page_130 (k4 rfl) (e_iald dX10_page_131 (kd10_1 h_a) (by decide) (by decide) k))))))) ?_
            refine ev_chk (fun h13 => ?_)
            refine ev_st (pc' := 133) (L' := [xR a, xI i0, xI i1, xI v7, xI 0]) (st' := [xI (Int.tmod (w4 (Int.tdiv v7 2)) (v1.2 (a + 1) 1))]) (fun _ _ _ k => e_irem dX10_page_132 h13 k) ?_
            exact ev_ret (e_iret dX10_page_133)
          refine ev_ite (P := i1 = 2) (fun h14 => ?_) (fun h14 => ?_)
          · refine ev_st (pc' := 134) (L' := [xR a, xI i0, xI i1, xI v7, xI 0]) (st' := []) (fun _ _ _ k => e_tin dX10_page_68 (tgt := 134) (off := 66) (by omega) (by omega) (by rw [h14]; rfl) rfl k) ?_
            exact ev_ret (e_iload_n dX10_page_134 rfl (i := 3) (x := v7) rfl (e_iconst dX10_page_135 (k4 rfl) (e_irem dX10_page_136 (by decide) (e_iret dX10_page_137))))
          refine ev_ite (P := i1 = 3) (fun h15 => ?_) (fun h15 => ?_)
          · refine ev_st (pc' := 138) (L' := [xR a, xI i0, xI i1, xI v7, xI 0]) (st' := []) (fun _ _ _ k => e_tin dX10_page_68 (tgt := 138) (off := 70) (by omega) (by omega) (by rw [h15]; rfl) rfl k) ?_
            refine ev_st (pc' := 148) (L' := [xR a, xI i0, xI i1, xI v7, xI 0]) (st' := []) (fun _ _ _ k => e_iload dX10_page_138 (i := 4) (x := 0) rfl (e_ifeqT dX10_page_140 (tgt := 148) rfl (by decide) k)) ?_
            refine ev_st (pc' := 156) (L' := [xR a, xI i0, xI i1, xI v7, xI 0]) (st' := [xI (w4 (90 + v7)), xR (a + 1)]) (fun _ _ _ k => e_aload_n dX10_page_148 rfl (i := 0) (x := a) rfl (e_getr dX10_page_149 flX10_7 (kd10_0 h_a) rfl (rf10_0_0 h_a) (e_bipush dX10_page_152 rfl (k4 rfl) (e_iload_n dX10_page_154 rfl (i := 3) (x := v7) rfl (e_iadd dX10_page_155 k))))) ?_
            refine ev_chk (fun h16 => ?_)
            refine ev_st (pc' := 157) (L' := [xR a, xI i0, xI i1, xI v7, xI 0]) (st' := [xI (v1.2 (a + 1) ((w4 (90 + v7))).toNat)]) (fun _ _ _ k => e_iald dX10_page_156 (kd10_1 h_a) h16.1 h16.2 k) ?_
            exact ev_ret (e_iret dX10_page_157)
          refine ev_ite (P := i1 = 4) (fun h17 => ?_) (fun h17 => ?_)
          · refine ev_st (pc' := 158) (L' := [xR a, xI i0, xI i1, xI v7, xI 0]) (st' := []) (fun _ _ _ k => e_tin dX10_page_68 (tgt := 158) (off := 90) (by omega) (by omega) (by rw [h17]; rfl) rfl k) ?_
            refine ev_st (pc' := 168) (L' := [xR a, xI i0, xI i1, xI v7, xI 0]) (st' := []) (fun _ _ _ k => e_iload dX10_page_158 (i := 4) (x := 0) rfl (e_ifeqT dX10_page_160 (tgt := 168) rfl (by decide) k)) ?_
            refine ev_st (pc' := 170) (L' := [xR a, xI i0, xI i1, xI v7, xI 0]) (st' := [xI i0, xR a]) (fun _ _ _ k => e_aload_n dX10_page_168 rfl (i := 0) (x := a) rfl (e_iload_n dX10_page_169 rfl (i := 1) (x := i0) rfl k)) ?_
            refine ev_callV (As := [xI i0]) (st := []) (fun v18 => [xI (xz v18)]) dX10_page_170 mlX10_133 (kd10_0 h_a) rfl rfl rfl rfl rfl rfl (c_X10_isUpright (d := d + 3) h_a i0) (fun _ => xz01 _) (fun _ => rfl) (fun v18 => ?_)
            refine ev_br2 (P := v18 = true) (pct := 176) (pcf := 180) (st' := []) (fun _ _ _ kt kf => e_ifeqz dX10_page_173 (tgt := 180) rfl kt kf) (fun h19 => ?_) (fun h19 => ?_)
            · exact ev_ret (e_iconst dX10_page_176 (k4 rfl) (e_goto dX10_page_177 (tgt := 181) rfl (e_iret dX10_page_181)))
            · exact ev_ret (e_iconst dX10_page_180 (k4 rfl) (e_iret dX10_page_181))
          refine ev_ite (P := i1 = 5) (fun h20 => ?_) (fun h20 => ?_)
          · refine ev_st (pc' := 182) (L' := [xR a, xI i0, xI i1, xI v7, xI 0]) (st' := []) (fun _ _ _ k => e_tin dX10_page_68 (tgt := 182) (off := 114) (by omega) (by omega) (by rw [h20]; rfl) rfl k) ?_
            refine ev_st (pc' := 184) (L' := [xR a, xI i0, xI i1, xI v7, xI 0]) (st' := [xI i0, xR a]) (fun _ _ _ k => e_aload_n dX10_page_182 rfl (i := 0) (x := a) rfl (e_iload_n dX10_page_183 rfl (i := 1) (x := i0) rfl k)) ?_
            refine ev_callV (As := [xI i0]) (st := []) (fun v21 => [xI (xz v21)]) dX10_page_184 mlX10_320 (kd10_0 h_a) rfl rfl rfl rfl rfl rfl (c_X10_isHidden (d := d + 2) h_a i0) (fun _ => xz01 _) (fun _ => rfl) (fun v21 => ?_)
            refine ev_br2 (P := v21 = true) (pct := 190) (pcf := 194) (st' := []) (fun _ _ _ kt kf => e_ifeqz dX10_page_187 (tgt := 194) rfl kt kf) (fun h22 => ?_) (fun h22 => ?_)
            · exact ev_ret (e_iconst dX10_page_190 (k4 rfl) (e_goto dX10_page_191 (tgt := 195) rfl (e_iret dX10_page_195)))
            · exact ev_ret (e_iconst dX10_page_194 (k4 rfl) (e_iret dX10_page_195))
          refine ev_ite (P := i1 = 6) (fun h23 => ?_) (fun h23 => ?_)
          · refine ev_st (pc' := 196) (L' := [xR a, xI i0, xI i1, xI v7, xI 0]) (st' := []) (fun _ _ _ k => e_tin dX10_page_68 (tgt := 196) (off := 128) (by omega) (by omega) (by rw [h23]; rfl) rfl k) ?_
            refine ev_st (pc' := 198) (L' := [xR a, xI i0, xI i1, xI v7, xI 0]) (st' := [xI i0, xR a]) (fun _ _ _ k => e_aload_n dX10_page_196 rfl (i := 0) (x := a) rfl (e_iload_n dX10_page_197 rfl (i := 1) (x := i0) rfl k)) ?_
            refine ev_callV (As := [xI i0]) (st := []) (fun v24 => [xI (xz v24)]) dX10_page_198 mlX10_320 (kd10_0 h_a) rfl rfl rfl rfl rfl rfl (c_X10_isHidden (d := d + 2) h_a i0) (fun _ => xz01 _) (fun _ => rfl) (fun v24 => ?_)
            refine ev_br2 (P := v24 = true) (pct := 216) (pcf := 204) (st' := []) (fun _ _ _ kt kf => e_ifnez dX10_page_201 (tgt := 216) rfl kt kf) (fun h25 => ?_) (fun h25 => ?_)
            · exact ev_ret (e_iconst dX10_page_216 (k4 rfl) (e_iret dX10_page_217))
            · refine ev_st (pc' := 206) (L' := [xR a, xI i0, xI i1, xI v7, xI 0]) (st' := [xI i0, xR a]) (fun _ _ _ k => e_aload_n dX10_page_204 rfl (i := 0) (x := a) rfl (e_iload_n dX10_page_205 rfl (i := 1) (x := i0) rfl k)) ?_
              refine ev_callV (As := [xI i0]) (st := []) (fun v26 => [xI (xz v26)]) dX10_page_206 mlX10_323 (kd10_0 h_a) rfl rfl rfl rfl rfl rfl (c_X10_isItsOwn (d := d + 2) h_a i0) (fun _ => xz01 _) (fun _ => rfl) (fun v26 => ?_)
              refine ev_br2 (P := v26 = true) (pct := 212) (pcf := 216) (st' := []) (fun _ _ _ kt kf => e_ifeqz dX10_page_209 (tgt := 216) rfl kt kf) (fun h27 => ?_) (fun h27 => ?_)
              · exact ev_ret (e_iconst dX10_page_212 (k4 rfl) (e_goto dX10_page_213 (tgt := 217) rfl (e_iret dX10_page_217)))
              · exact ev_ret (e_iconst dX10_page_216 (k4 rfl) (e_iret dX10_page_217))
          refine ev_st (pc' := 218) (L' := [xR a, xI i0, xI i1, xI v7, xI 0]) (st' := []) (fun _ _ _ k => e_tout dX10_page_68 (tgt := 218) (by omega) rfl k) ?_
          refine ev_st (pc' := 220) (L' := [xR a, xI i0, xI i1, xI v7, xI 0]) (st' := [xI i0, xR a]) (fun _ _ _ k => e_aload_n dX10_page_218 rfl (i := 0) (x := a) rfl (e_iload_n dX10_page_219 rfl (i := 1) (x := i0) rfl k)) ?_
          refine ev_callV (As := [xI i0]) (st := []) (fun v28 => [xI v28.1]) dX10_page_220 mlX10_326 (kd10_0 h_a) rfl rfl rfl rfl rfl rfl (c_X10_linesOn (d := d) h_a i0) (fun _ => trivial) (fun _ => rfl) (fun v28 => ?_)
          exact ev_ret (e_iret dX10_page_223)
        · refine ev_st (pc' := 68) (L' := [xR a, xI i0, xI i1, xI v7, xI 1]) (st' := [xI i1]) (fun _ _ _ k => e_iconst dX10_page_60 (k4 rfl) (e_goto dX10_page_61 (tgt := 65) rfl (e_istore dX10_page_65 (i := 4) rfl (L' := [xR a, xI i0, xI i1, xI v7, xI 1]) rfl (e_iload_n dX10_page_67 rfl (i := 2) (x := i1) rfl k)))) ?_
          refine ev_ite (P := i1 = 0) (fun h29 => ?_) (fun h29 => ?_)
          · refine ev_st (pc' := 112) (L' := [xR a, xI i0, xI i1, xI v7, xI 1]) (st' := []) (fun _ _ _ k => e_tin dX10_page_68 (tgt := 112) (off := 44) (by omega) (by omega) (by rw [h29]; rfl) rfl k) ?_
            refine ev_st (pc' := 121) (L' := [xR a, xI i0, xI i1, xI v7, xI 1]) (st' := [xI (v1.2 (a + 1) 1), xI (w4 (Int.tdiv v7 2))]) (fun _ _ _ k => e_iload_n dX10_page_112 rfl (i := 3) (x := v7) rfl (e_iconst dX10_page_113 (k4 rfl) (e_idiv dX10_page_114 (by decide) (e_aload_n dX10_page_115 rfl (i := 0) (x := a) rfl (e_getr dX10_page_116 flX10_7 (kd10_0 h_a) rfl (rf10_0_0 h_a) (e_iconst dX10_page_119 (k4 rfl) (e_iald dX10_page_120 (kd10_1 h_a) (by decide) (by decide) k))))))) ?_
            refine ev_chk (fun h30 => ?_)
            refine ev_st (pc' := 122) (L' := [xR a, xI i0, xI i1, xI v7, xI 1]) (st' := [xI (w4 (Int.tdiv (w4 (Int.tdiv v7 2)) (v1.2 (a + 1) 1)))]) (fun _ _ _ k => e_idiv dX10_page_121 h30 k) ?_
            exact ev_ret (e_iret dX10_page_122)
          refine ev_ite (P := i1 = 1) (fun h31 => ?_) (fun h31 => ?_)
          · refine ev_st (pc' := 123) (L' := [xR a, xI i0, xI i1, xI v7, xI 1]) (st' := []) (fun _ _ _ k => e_tin dX10_page_68 (tgt := 123) (off := 55) (by omega) (by omega) (by rw [h31]; rfl) rfl k) ?_
            refine ev_st (pc' := 132) (L' := [xR a, xI i0, xI i1, xI v7, xI 1]) (st' := [xI (v1.2 (a + 1) 1), xI (w4 (Int.tdiv v7 2))]) (fun _ _ _ k => e_iload_n dX10_page_123 rfl (i := 3) (x := v7) rfl (e_iconst dX10_page_124 (k4 rfl) (e_idiv dX10_page_125 (by decide) (e_aload_n dX10_page_126 rfl (i := 0) (x := a) rfl (e_getr dX10_page_127 flX10_7 (kd10_0 h_a) rfl (rf10_0_0 h_a) (e_iconst dX10_page_130 (k4 rfl) (e_iald dX10_page_131 (kd10_1 h_a) (by decide) (by decide) k))))))) ?_
            refine ev_chk (fun h32 => ?_)
            refine ev_st (pc' := 133) (L' := [xR a, xI i0, xI i1, xI v7, xI 1]) (st' := [xI (Int.tmod (w4 (Int.tdiv v7 2)) (v1.2 (a + 1) 1))]) (fun _ _ _ k => e_irem dX10_page_132 h32 k) ?_
            exact ev_ret (e_iret dX10_page_133)
          refine ev_ite (P := i1 = 2) (fun h33 => ?_) (fun h33 => ?_)
          · refine ev_st (pc' := 134) (L' := [xR a, xI i0, xI i1, xI v7, xI 1]) (st' := []) (fun _ _ _ k => e_tin dX10_page_68 (tgt := 134) (off := 66) (by omega) (by omega) (by rw [h33]; rfl) rfl k) ?_
            exact ev_ret (e_iload_n dX10_page_134 rfl (i := 3) (x := v7) rfl (e_iconst dX10_page_135 (k4 rfl) (e_irem dX10_page_136 (by decide) (e_iret dX10_page_137))))
          refine ev_ite (P := i1 = 3) (fun h34 => ?_) (fun h34 => ?_)
          · refine ev_st (pc' := 138) (L' := [xR a, xI i0, xI i1, xI v7, xI 1]) (st' := []) (fun _ _ _ k => e_tin dX10_page_68 (tgt := 138) (off := 70) (by omega) (by omega) (by rw [h34]; rfl) rfl k) ?_
            refine ev_st (pc' := 143) (L' := [xR a, xI i0, xI i1, xI v7, xI 1]) (st' := []) (fun _ _ _ k => e_iload dX10_page_138 (i := 4) (x := 1) rfl (e_ifeqF dX10_page_140 (tgt := 148) rfl (by decide) k)) ?_
            exact ev_ret (e_bipush dX10_page_143 rfl (k4 rfl) (e_goto dX10_page_145 (tgt := 157) rfl (e_iret dX10_page_157)))
          refine ev_ite (P := i1 = 4) (fun h35 => ?_) (fun h35 => ?_)
          · refine ev_st (pc' := 158) (L' := [xR a, xI i0, xI i1, xI v7, xI 1]) (st' := []) (fun _ _ _ k => e_tin dX10_page_68 (tgt := 158) (off := 90) (by omega) (by omega) (by rw [h35]; rfl) rfl k) ?_
            refine ev_st (pc' := 163) (L' := [xR a, xI i0, xI i1, xI v7, xI 1]) (st' := []) (fun _ _ _ k => e_iload dX10_page_158 (i := 4) (x := 1) rfl (e_ifeqF dX10_page_160 (tgt := 168) rfl (by decide) k)) ?_
            exact ev_ret (e_bipush dX10_page_163 rfl (k4 rfl) (e_goto dX10_page_165 (tgt := 181) rfl (e_iret dX10_page_181)))
          refine ev_ite (P := i1 = 5) (fun h36 => ?_) (fun h36 => ?_)
          · refine ev_st (pc' := 182) (L' := [xR a, xI i0, xI i1, xI v7, xI 1]) (st' := []) (fun _ _ _ k => e_tin dX10_page_68 (tgt := 182) (off := 114) (by omega) (by omega) (by rw [h36]; rfl) rfl k) ?_
            refine ev_st (pc' := 184) (L' := [xR a, xI i0, xI i1, xI v7, xI 1]) (st' := [xI i0, xR a]) (fun _ _ _ k => e_aload_n dX10_page_182 rfl (i := 0) (x := a) rfl (e_iload_n dX10_page_183 rfl (i := 1) (x := i0) rfl k)) ?_
            refine ev_callV (As := [xI i0]) (st := []) (fun v37 => [xI (xz v37)]) dX10_page_184 mlX10_320 (kd10_0 h_a) rfl rfl rfl rfl rfl rfl (c_X10_isHidden (d := d + 2) h_a i0) (fun _ => xz01 _) (fun _ => rfl) (fun v37 => ?_)
            refine ev_br2 (P := v37 = true) (pct := 190) (pcf := 194) (st' := []) (fun _ _ _ kt kf => e_ifeqz dX10_page_187 (tgt := 194) rfl kt kf) (fun h38 => ?_) (fun h38 => ?_)
            · exact ev_ret (e_iconst dX10_page_190 (k4 rfl) (e_goto dX10_page_191 (tgt := 195) rfl (e_iret dX10_page_195)))
            · exact ev_ret (e_iconst dX10_page_194 (k4 rfl) (e_iret dX10_page_195))
          refine ev_ite (P := i1 = 6) (fun h39 => ?_) (fun h39 => ?_)
          · refine ev_st (pc' := 196) (L' := [xR a, xI i0, xI i1, xI v7, xI 1]) (st' := []) (fun _ _ _ k => e_tin dX10_page_68 (tgt := 196) (off := 128) (by omega) (by omega) (by rw [h39]; rfl) rfl k) ?_
            refine ev_st (pc' := 198) (L' := [xR a, xI i0, xI i1, xI v7, xI 1]) (st' := [xI i0, xR a]) (fun _ _ _ k => e_aload_n dX10_page_196 rfl (i := 0) (x := a) rfl (e_iload_n dX10_page_197 rfl (i := 1) (x := i0) rfl k)) ?_
            refine ev_callV (As := [xI i0]) (st := []) (fun v40 => [xI (xz v40)]) dX10_page_198 mlX10_320 (kd10_0 h_a) rfl rfl rfl rfl rfl rfl (c_X10_isHidden (d := d + 2) h_a i0) (fun _ => xz01 _) (fun _ => rfl) (fun v40 => ?_)
            refine ev_br2 (P := v40 = true) (pct := 216) (pcf := 204) (st' := []) (fun _ _ _ kt kf => e_ifnez dX10_page_201 (tgt := 216) rfl kt kf) (fun h41 => ?_) (fun h41 => ?_)
            · exact ev_ret (e_iconst dX10_page_216 (k4 rfl) (e_iret dX10_page_217))
            · refine ev_st (pc' := 206) (L' := [xR a, xI i0, xI i1, xI v7, xI 1]) (st' := [xI i0, xR a]) (fun _ _ _ k => e_aload_n dX10_page_204 rfl (i := 0) (x := a) rfl (e_iload_n dX10_page_205 rfl (i := 1) (x := i0) rfl k)) ?_
              refine ev_callV (As := [xI i0]) (st := []) (fun v42 => [xI (xz v42)]) dX10_page_206 mlX10_323 (kd10_0 h_a) rfl rfl rfl rfl rfl rfl (c_X10_isItsOwn (d := d + 2) h_a i0) (fun _ => xz01 _) (fun _ => rfl) (fun v42 => ?_)
              refine ev_br2 (P := v42 = true) (pct := 212) (pcf := 216) (st' := []) (fun _ _ _ kt kf => e_ifeqz dX10_page_209 (tgt := 216) rfl kt kf) (fun h43 => ?_) (fun h43 => ?_)
              · exact ev_ret (e_iconst dX10_page_212 (k4 rfl) (e_goto dX10_page_213 (tgt := 217) rfl (e_iret dX10_page_217)))
              · exact ev_ret (e_iconst dX10_page_216 (k4 rfl) (e_iret dX10_page_217))
          refine ev_st (pc' := 218) (L' := [xR a, xI i0, xI i1, xI v7, xI 1]) (st' := []) (fun _ _ _ k => e_tout dX10_page_68 (tgt := 218) (by omega) rfl k) ?_
          refine ev_st (pc' := 220) (L' := [xR a, xI i0, xI i1, xI v7, xI 1]) (st' := [xI i0, xR a]) (fun _ _ _ k => e_aload_n dX10_page_218 rfl (i := 0) (x := a) rfl (e_iload_n dX10_page_219 rfl (i := 1) (x := i0) rfl k)) ?_
          refine ev_callV (As := [xI i0]) (st := []) (fun v44 => [xI v44.1]) dX10_page_220 mlX10_326 (kd10_0 h_a) rfl rfl rfl rfl rfl rfl (c_X10_linesOn (d := d) h_a i0) (fun _ => trivial) (fun _ => rfl) (fun v44 => ?_)
          exact ev_ret (e_iret dX10_page_223)
      · exact ev_ret (e_iconst dX10_page_40 (k4 rfl) (e_iret dX10_page_41))
    · exact ev_ret (e_iconst dX10_page_40 (k4 rfl) (e_iret dX10_page_41))
  · exact ev_ret (e_bipush dX10_page_7 rfl (k4 rfl) (e_iret dX10_page_9))
def f_X10_opening (a : Nat) (i0 : Int) (i1 : Int) (R : xN) : Option (Int × xN) :=
  (f_X10_isBooklet a R).bind (fun v1 =>
  if v1.1 = true then
  (f_X10_in i0 0 (v1.2 a 9) v1.2).bind (fun v3 =>
  if v3 = true then
  (f_X10_in i1 0 2 v1.2).bind (fun v5 =>
  if v5 = true then
  (f_X10_shutBy a i0 (v1.2 (a + 1) 8) v1.2).bind (fun v7 =>
  if i0 = 0 then
  if i1 = 0 then
  if v7 = 0 then
  some (0, v1.2)
  else
  some (1, v1.2)
  else
  if i1 = 1 then
  some (v7, v1.2)
  else
  if v7 = 0 then
  some ((w4 (1 * (v1.2 (a + 1) 11))), v1.2)
  else
  some (0, v1.2)
  else
  xlet (if i0 = (v1.2 a 9) then 1 else 2) (fun t13 =>
  if i1 = 0 then
  if v7 = 0 then
  some (0, v1.2)
  else
  some (1, v1.2)
  else
  if i1 = 1 then
  some (v7, v1.2)
  else
  if v7 = 0 then
  some ((w4 (t13 * (v1.2 (a + 1) 11))), v1.2)
  else
  some (0, v1.2)))
  else
  some ((-1), v1.2))
  else
  some ((-1), v1.2))
  else
  some ((-2), v1.2))
set_option maxRecDepth 20000 in
set_option maxHeartbeats 4000000 in
theorem c_X10_opening {l : Launch} {g : xG} {d : Nat} {A : xA} {R : xN} {a : Nat} (h_a : sh 10 A a) (i0 : Int) (i1 : Int) : Ev l g (d + 4) mX10_opening 0 [xR a, xI i0, xI i1, xU, xU] [] A R (fun v : Int × xN => some (xI v.1)) (fun v => v.2) (f_X10_opening a i0 i1 R) := by
  rw [f_X10_opening]
  refine ev_st (pc' := 1) (L' := [xR a, xI i0, xI i1, xU, xU]) (st' := [xR a]) (fun _ _ _ k => e_aload_n dX10_opening_0 rfl (i := 0) (x := a) rfl k) ?_
  refine ev_callV (As := []) (st := []) (fun v1 => [xI (xz v1.1)]) dX10_opening_1 mlX10_162 (kd10_0 h_a) rfl rfl rfl rfl rfl rfl (c_X10_isBooklet (d := d) h_a) (fun _ => xz01 _) (fun _ => rfl) (fun v1 => ?_)
  refine ev_br2 (P := v1.1 = true) (pct := 10) (pcf := 7) (st' := []) (fun _ _ _ kt kf => e_ifnez dX10_opening_4 (tgt := 10) rfl kt kf) (fun h2 => ?_) (fun h2 => ?_)
  · refine ev_st (pc' := 18) (L' := [xR a, xI i0, xI i1, xU, xU]) (st' := [xL (v1.2 a 9), xL 0, xL i0]) (fun _ _ _ k => e_iload_n dX10_opening_10 rfl (i := 1) (x := i0) rfl (e_i2l dX10_opening_11 (e_lconst dX10_opening_12 (i := 0) rfl (k8 rfl) (e_aload_n dX10_opening_13 rfl (i := 0) (x := a) rfl (e_geti dX10_opening_14 flX10_78 (kd10_0 h_a) (Or.inl rfl) (e_i2l dX10_opening_17 k)))))) ?_
    refine ev_callS (As := [xL i0, xL 0, xL (v1.2 a 9)]) (st := []) (fun v3 => [xI (xz v3)]) dX10_opening_18 mlX10_101 rfl rfl rfl rfl rfl rfl (c_X10_in (d := d + 3) i0 0 (v1.2 a 9)) (fun _ => xz01 _) (fun _ => rfl) (fun v3 => ?_)
    refine ev_br2 (P := v3 = true) (pct := 24) (pcf := 36) (st' := []) (fun _ _ _ kt kf => e_ifeqz dX10_opening_21 (tgt := 36) rfl kt kf) (fun h4 => ?_) (fun h4 => ?_)
    · refine ev_st (pc' := 30) (L' := [xR a, xI i0, xI i1, xU, xU]) (st' := [xL 2, xL 0, xL i1]) (fun _ _ _ k => e_iload_n dX10_opening_24 rfl (i := 2) (x := i1) rfl (e_i2l dX10_opening_25 (e_lconst dX10_opening_26 (i := 0) rfl (k8 rfl) (e_ldc2 dX10_opening_27 ckX10_329 (k8 rfl) k)))) ?_
      refine ev_callS (As := [xL i1, xL 0, xL 2]) (st := []) (fun v5 => [xI (xz v5)]) dX10_opening_30 mlX10_101 rfl rfl rfl rfl rfl rfl (c_X10_in (d := d + 3) i1 0 2) (fun _ => xz01 _) (fun _ => rfl) (fun v5 => ?_)
      refine ev_br2 (P := v5 = true) (pct := 38) (pcf := 36) (st' := []) (fun _ _ _ kt kf => e_ifnez dX10_opening_33 (tgt := 38) rfl kt kf) (fun h6 => ?_) (fun h6 => ?_)
      · refine ev_st (pc' := 47) (L' := [xR a, xI i0, xI i1, xU, xU]) (st' := [xI (v1.2 (a + 1) 8), xI i0, xR a]) (fun _ _ _ k => e_aload_n dX10_opening_38 rfl (i := 0) (x := a) rfl (e_iload_n dX10_opening_39 rfl (i := 1) (x := i0) rfl (e_aload_n dX10_opening_40 rfl (i := 0) (x := a) rfl (e_getr dX10_opening_41 flX10_7 (kd10_0 h_a) rfl (rf10_0_0 h_a) (e_bipush dX10_opening_44 rfl (k4 rfl) (e_iald dX10_opening_46 (kd10_1 h_a) (by decide) (by decide) k)))))) ?_
        refine ev_callV (As := [xI i0, xI (v1.2 (a + 1) 8)]) (st := []) (fun v7 => [xI v7]) dX10_opening_47 mlX10_127 (kd10_0 h_a) rfl rfl rfl rfl rfl rfl (c_X10_shutBy (d := d + 2) h_a i0 (v1.2 (a + 1) 8)) (fun _ => trivial) (fun _ => rfl) (fun v7 => ?_)
        refine ev_st (pc' := 52) (L' := [xR a, xI i0, xI i1, xI v7, xU]) (st' := [xI i0]) (fun _ _ _ k => e_istore_n dX10_opening_50 rfl (i := 3) rfl (L' := [xR a, xI i0, xI i1, xI v7, xU]) rfl (e_iload_n dX10_opening_51 rfl (i := 1) (x := i0) rfl k)) ?_
        refine ev_br2 (P := i0 = 0) (pct := 63) (pcf := 55) (st' := []) (fun _ _ _ kt kf => e_ifeq dX10_opening_52 (tgt := 63) rfl kt kf) (fun h8 => ?_) (fun h8 => ?_)
        · refine ev_st (pc' := 71) (L' := [xR a, xI i0, xI i1, xI v7, xI 1]) (st' := [xI i1]) (fun _ _ _ k => e_iconst dX10_opening_63 (k4 rfl) (e_goto dX10_opening_64 (tgt := 68) rfl (e_istore dX10_opening_68 (i := 4) rfl (L' := [xR a, xI i0, xI i1, xI v7, xI 1]) rfl (e_iload_n dX10_opening_70 rfl (i := 2) (x := i1) rfl k)))) ?_
          refine ev_br2 (P := i1 = 0) (pct := 74) (pcf := 86) (st' := []) (fun _ _ _ kt kf => e_ifne dX10_opening_71 (tgt := 86) rfl kt kf) (fun h9 => ?_) (fun h9 => ?_)
          · refine ev_st (pc' := 75) (L' := [xR a, xI i0, xI i1, xI v7, xI 1]) (st' := [xI v7]) (fun _ _ _ k => e_iload_n dX10_opening_74 rfl (i := 3) (x := v7) rfl k) ?_
            refine ev_br2 (P := v7 = 0) (pct := 78) (pcf := 82) (st' := []) (fun _ _ _ kt kf => e_ifne dX10_opening_75 (tgt := 82) rfl kt kf) (fun h10 => ?_) (fun h10 => ?_)
            · exact ev_ret (e_iconst dX10_opening_78 (k4 rfl) (e_goto dX10_opening_79 (tgt := 113) rfl (e_iret dX10_opening_113)))
            · exact ev_ret (e_iconst dX10_opening_82 (k4 rfl) (e_goto dX10_opening_83 (tgt := 113) rfl (e_iret dX10_opening_113)))
          · refine ev_st (pc' := 88) (L' := [xR a, xI i0, xI i1, xI v7, xI 1]) (st' := [xI 1, xI i1]) (fun _ _ _ k => e_iload_n dX10_opening_86 rfl (i := 2) (x := i1) rfl (e_iconst dX10_opening_87 (k4 rfl) k)) ?_
            refine ev_br2 (P := i1 = 1) (pct := 91) (pcf := 95) (st' := []) (fun _ _ _ kt kf => e_cne dX10_opening_88 (tgt := 95) rfl kt kf) (fun h11 => ?_) (fun h11 => ?_)
            · exact ev_ret (e_iload_n dX10_opening_91 rfl (i := 3) (x := v7) rfl (e_goto dX10_opening_92 (tgt := 113) rfl (e_iret dX10_opening_113)))
            · refine ev_st (pc' := 96) (L' := [xR a, xI i0, xI i1, xI v7, xI 1]) (st' := [xI v7]) (fun _ _ _ k => e_iload_n dX10_opening_95 rfl (i := 3) (x := v7) rfl k) ?_
              refine ev_br2 (P := v7 = 0) (pct := 99) (pcf := 112) (st' := []) (fun _ _ _ kt kf => e_ifne dX10_opening_96 (tgt := 112) rfl kt kf) (fun h12 => ?_) (fun h12 => ?_)
              · exact ev_ret (e_iload dX10_opening_99 (i := 4) (x := 1) rfl (e_aload_n dX10_opening_101 rfl (i := 0) (x := a) rfl (e_getr dX10_opening_102 flX10_7 (kd10_0 h_a) rfl (rf10_0_0 h_a) (e_bipush dX10_opening_105 rfl (k4 rfl) (e_iald dX10_opening_107 (kd10_1 h_a) (by decide) (by decide) (e_imul dX10_opening_108 (e_goto dX10_opening_109 (tgt := 113) rfl (e_iret dX10_opening_113))))))))
              · exact ev_ret (e_iconst dX10_opening_112 (k4 rfl) (e_iret dX10_opening_113))
        · refine ev_st (pc' := 60) (L' := [xR a, xI i0, xI i1, xI v7, xU]) (st' := [xI (v1.2 a 9), xI i0]) (fun _ _ _ k => e_iload_n dX10_opening_55 rfl (i := 1) (x := i0) rfl (e_aload_n dX10_opening_56 rfl (i := 0) (x := a) rfl (e_geti dX10_opening_57 flX10_78 (kd10_0 h_a) (Or.inl rfl) k))) ?_
          refine ev_tern (P := i0 = (v1.2 a 9)) (a := 1) (b := 2) (pct := 63) (pcf := 67) (J := 68) (st' := []) (fun _ _ _ kt kf => e_cne dX10_opening_60 (tgt := 67) rfl kt kf) (fun _ _ _ k => e_iconst dX10_opening_63 (k4 rfl) (e_goto dX10_opening_64 (tgt := 68) rfl k)) (fun _ _ _ k => e_iconst dX10_opening_67 (k4 rfl) k) (fun t13 et13 => ?_)
          refine ev_st (pc' := 71) (L' := [xR a, xI i0, xI i1, xI v7, xI t13]) (st' := [xI i1]) (fun _ _ _ k => e_istore dX10_opening_68 (i := 4) rfl (L' := [xR a, xI i0, xI i1, xI v7, xI t13]) rfl (e_iload_n dX10_opening_70 rfl (i := 2) (x := i1) rfl k)) ?_
          refine ev_br2 (P := i1 = 0) (pct := 74) (pcf := 86) (st' := []) (fun _ _ _ kt kf => e_ifne dX10_opening_71 (tgt := 86) rfl kt kf) (fun h14 => ?_) (fun h14 => ?_)
          · refine ev_st (pc' := 75) (L' := [xR a, xI i0, xI i1, xI v7, xI t13]) (st' := [xI v7]) (fun _ _ _ k => e_iload_n dX10_opening_74 rfl (i := 3) (x := v7) rfl k) ?_
            refine ev_br2 (P := v7 = 0) (pct := 78) (pcf := 82) (st' := []) (fun _ _ _ kt kf => e_ifne dX10_opening_75 (tgt := 82) rfl kt kf) (fun h15 => ?_) (fun h15 => ?_)
            · exact ev_ret (e_iconst dX10_opening_78 (k4 rfl) (e_goto dX10_opening_79 (tgt := 113) rfl (e_iret dX10_opening_113)))
            · exact ev_ret (e_iconst dX10_opening_82 (k4 rfl) (e_goto dX10_opening_83 (tgt := 113) rfl (e_iret dX10_opening_113)))
          · refine ev_st (pc' := 88) (L' := [xR a, xI i0, xI i1, xI v7, xI t13]) (st' := [xI 1, xI i1]) (fun _ _ _ k => e_iload_n dX10_opening_86 rfl (i := 2) (x := i1) rfl (e_iconst dX10_opening_87 (k4 rfl) k)) ?_
            refine ev_br2 (P := i1 = 1) (pct := 91) (pcf := 95) (st' := []) (fun _ _ _ kt kf => e_cne dX10_opening_88 (tgt := 95) rfl kt kf) (fun h16 => ?_) (fun h16 => ?_)
            · exact ev_ret (e_iload_n dX10_opening_91 rfl (i := 3) (x := v7) rfl (e_goto dX10_opening_92 (tgt := 113) rfl (e_iret dX10_opening_113)))
            · refine ev_st (pc' := 96) (L' := [xR a, xI i0, xI i1, xI v7, xI t13]) (st' := [xI v7]) (fun _ _ _ k => e_iload_n dX10_opening_95 rfl (i := 3) (x := v7) rfl k) ?_
              refine ev_br2 (P := v7 = 0) (pct := 99) (pcf := 112) (st' := []) (fun _ _ _ kt kf => e_ifne dX10_opening_96 (tgt := 112) rfl kt kf) (fun h17 => ?_) (fun h17 => ?_)
              · exact ev_ret (e_iload dX10_opening_99 (i := 4) (x := t13) rfl (e_aload_n dX10_opening_101 rfl (i := 0) (x := a) rfl (e_getr dX10_opening_102 flX10_7 (kd10_0 h_a) rfl (rf10_0_0 h_a) (e_bipush dX10_opening_105 rfl (k4 rfl) (e_iald dX10_opening_107 (kd10_1 h_a) (by decide) (by decide) (e_imul dX10_opening_108 (e_goto dX10_opening_109 (tgt := 113) rfl (e_iret dX10_opening_113))))))))
              · exact ev_ret (e_iconst dX10_opening_112 (k4 rfl) (e_iret dX10_opening_113))
      · exact ev_ret (e_iconst dX10_opening_36 (k4 rfl) (e_iret dX10_opening_37))
    · exact ev_ret (e_iconst dX10_opening_36 (k4 rfl) (e_iret dX10_opening_37))
  · exact ev_ret (e_bipush dX10_opening_7 rfl (k4 rfl) (e_iret dX10_opening_9))
def f_X10_hanging (a : Nat) (i0 : Int) (R : xN) : Option (Int × xN) :=
  (f_X10_isBooklet a R).bind (fun v1 =>
  if v1.1 = true then
  (f_X10_in i0 0 3 v1.2).bind (fun v3 =>
  if v3 = true then
  (f_X10_has (v1.2 (a + 1) 8) i0 v1.2).bind (fun v5 =>
  if v5 = true then
  some (0, v1.2)
  else
  (f_X10_pairsAt a i0 v1.2).bind (fun v7 =>
  some (v7, v1.2)))
  else
  some ((-1), v1.2))
  else
  some ((-2), v1.2))
set_option maxRecDepth 20000 in
set_option maxHeartbeats 4000000 in
theorem c_X10_hanging {l : Launch} {g : xG} {d : Nat} {A : xA} {R : xN} {a : Nat} (h_a : sh 10 A a) (i0 : Int) : Ev l g (d + 4) mX10_hanging 0 [xR a, xI i0] [] A R (fun v : Int × xN => some (xI v.1)) (fun v => v.2) (f_X10_hanging a i0 R) := by
  rw [f_X10_hanging]
  refine ev_st (pc' := 1) (L' := [xR a, xI i0]) (st' := [xR a]) (fun _ _ _ k => e_aload_n dX10_hanging_0 rfl (i := 0) (x := a) rfl k) ?_
  refine ev_callV (As := []) (st := []) (fun v1 => [xI (xz v1.1)]) dX10_hanging_1 mlX10_162 (kd10_0 h_a) rfl rfl rfl rfl rfl rfl (c_X10_isBooklet (d := d) h_a) (fun _ => xz01 _) (fun _ => rfl) (fun v1 => ?_)
  refine ev_br2 (P := v1.1 = true) (pct := 10) (pcf := 7) (st' := []) (fun _ _ _ kt kf => e_ifnez dX10_hanging_4 (tgt := 10) rfl kt kf) (fun h2 => ?_) (fun h2 => ?_)
  · refine ev_st (pc' := 16) (L' := [xR a, xI i0]) (st' := [xL 3, xL 0, xL i0]) (fun _ _ _ k => e_iload_n dX10_hanging_10 rfl (i := 1) (x := i0) rfl (e_i2l dX10_hanging_11 (e_lconst dX10_hanging_12 (i := 0) rfl (k8 rfl) (e_ldc2 dX10_hanging_13 ckX10_160 (k8 rfl) k)))) ?_
    refine ev_callS (As := [xL i0, xL 0, xL 3]) (st := []) (fun v3 => [xI (xz v3)]) dX10_hanging_16 mlX10_101 rfl rfl rfl rfl rfl rfl (c_X10_in (d := d + 3) i0 0 3) (fun _ => xz01 _) (fun _ => rfl) (fun v3 => ?_)
    refine ev_br2 (P := v3 = true) (pct := 26) (pcf := 22) (st' := []) (fun _ _ _ kt kf => e_ifnez dX10_hanging_19 (tgt := 26) rfl kt kf) (fun h4 => ?_) (fun h4 => ?_)
    · refine ev_st (pc' := 34) (L' := [xR a, xI i0]) (st' := [xI i0, xI (v1.2 (a + 1) 8)]) (fun _ _ _ k => e_aload_n dX10_hanging_26 rfl (i := 0) (x := a) rfl (e_getr dX10_hanging_27 flX10_7 (kd10_0 h_a) rfl (rf10_0_0 h_a) (e_bipush dX10_hanging_30 rfl (k4 rfl) (e_iald dX10_hanging_32 (kd10_1 h_a) (by decide) (by decide) (e_iload_n dX10_hanging_33 rfl (i := 1) (x := i0) rfl k))))) ?_
      refine ev_callS (As := [xI (v1.2 (a + 1) 8), xI i0]) (st := []) (fun v5 => [xI (xz v5)]) dX10_hanging_34 mlX10_120 rfl rfl rfl rfl rfl rfl (c_X10_has (d := d + 3) (v1.2 (a + 1) 8) i0) (fun _ => xz01 _) (fun _ => rfl) (fun v5 => ?_)
      refine ev_br2 (P := v5 = true) (pct := 40) (pcf := 44) (st' := []) (fun _ _ _ kt kf => e_ifeqz dX10_hanging_37 (tgt := 44) rfl kt kf) (fun h6 => ?_) (fun h6 => ?_)
      · exact ev_ret (e_iconst dX10_hanging_40 (k4 rfl) (e_goto dX10_hanging_41 (tgt := 49) rfl (e_iret dX10_hanging_49)))
      · refine ev_st (pc' := 46) (L' := [xR a, xI i0]) (st' := [xI i0, xR a]) (fun _ _ _ k => e_aload_n dX10_hanging_44 rfl (i := 0) (x := a) rfl (e_iload_n dX10_hanging_45 rfl (i := 1) (x := i0) rfl k)) ?_
        refine ev_callV (As := [xI i0]) (st := []) (fun v7 => [xI v7]) dX10_hanging_46 mlX10_165 (kd10_0 h_a) rfl rfl rfl rfl rfl rfl (c_X10_pairsAt (d := d + 2) h_a i0) (fun _ => trivial) (fun _ => rfl) (fun v7 => ?_)
        exact ev_ret (e_iret dX10_hanging_49)
    · exact ev_ret (e_iconst dX10_hanging_22 (k4 rfl) (e_goto dX10_hanging_23 (tgt := 49) rfl (e_iret dX10_hanging_49)))
  · exact ev_ret (e_bipush dX10_hanging_7 rfl (k4 rfl) (e_iret dX10_hanging_9))
def f_X10_together (a : Nat) (i0 : Int) (i1 : Int) (R : xN) : Option (Int × xN) :=
  (f_X10_isBooklet a R).bind (fun v1 =>
  if v1.1 = true then
  (f_X10_in i0 0 (w4 ((v1.2 a 9) - 1)) v1.2).bind (fun v3 =>
  if v3 = true then
  (f_X10_in i1 0 (w4 ((v1.2 a 9) - 1)) v1.2).bind (fun v5 =>
  if v5 = true then
  if i0 = i1 then
  some ((-1), v1.2)
  else
  (f_X10_edgeOf a i0 i1 v1.2).bind (fun v8 =>
  if v8 < 0 then
  some (0, v1.2)
  else
  (f_X10_has (v1.2 (a + 1) 8) v8 v1.2).bind (fun v10 =>
  xlet (if v10 = true then 0 else (b4shl 1 v8)) (fun t11 =>
  some (t11, v1.2))))
  else
  some ((-1), v1.2))
  else
  some ((-1), v1.2))
  else
  some ((-2), v1.2))
set_option maxRecDepth 20000 in
set_option maxHeartbeats 4000000 in
theorem c_X10_together {l : Launch} {g : xG} {d : Nat} {A : xA} {R : xN} {a : Nat} (h_a : sh 10 A a) (i0 : Int) (i1 : Int) : Ev l g (d + 4) mX10_together 0 [xR a, xI i0, xI i1, xU] [] A R (fun v : Int × xN => some (xI v.1)) (fun v => v.2) (f_X10_together a i0 i1 R) := by
  rw [f_X10_together]
  refine ev_st (pc' := 1) (L' := [xR a, xI i0, xI i1, xU]) (st' := [xR a]) (fun _ _ _ k => e_aload_n dX10_together_0 rfl (i := 0) (x := a) rfl k) ?_
  refine ev_callV (As := []) (st := []) (fun v1 => [xI (xz v1.1)]) dX10_together_1 mlX10_162 (kd10_0 h_a) rfl rfl rfl rfl rfl rfl (c_X10_isBooklet (d := d) h_a) (fun _ => xz01 _) (fun _ => rfl) (fun v1 => ?_)
  refine ev_br2 (P := v1.1 = true) (pct := 10) (pcf := 7) (st' := []) (fun _ _ _ kt kf => e_ifnez dX10_together_4 (tgt := 10) rfl kt kf) (fun h2 => ?_) (fun h2 => ?_)
  · refine ev_st (pc' := 20) (L' := [xR a, xI i0, xI i1, xU]) (st' := [xL (w4 ((v1.2 a 9) - 1)), xL 0, xL i0]) (fun _ _ _ k => e_iload_n dX10_together_10 rfl (i := 1) (x := i0) rfl (e_i2l dX10_together_11 (e_lconst dX10_together_12 (i := 0) rfl (k8 rfl) (e_aload_n dX10_together_13 rfl (i := 0) (x := a) rfl (e_geti dX10_together_14 flX10_78 (kd10_0 h_a) (Or.inl rfl) (e_iconst dX10_together_17 (k4 rfl) (e_isub dX10_together_18 (e_i2l dX10_together_19 k)))))))) ?_
    refine ev_callS (As := [xL i0, xL 0, xL (w4 ((v1.2 a 9) - 1))]) (st := []) (fun v3 => [xI (xz v3)]) dX10_together_20 mlX10_101 rfl rfl rfl rfl rfl rfl (c_X10_in (d := d + 3) i0 0 (w4 ((v1.2 a 9) - 1))) (fun _ => xz01 _) (fun _ => rfl) (fun v3 => ?_)
    refine ev_br2 (P := v3 = true) (pct := 26) (pcf := 47) (st' := []) (fun _ _ _ kt kf => e_ifeqz dX10_together_23 (tgt := 47) rfl kt kf) (fun h4 => ?_) (fun h4 => ?_)
    · refine ev_st (pc' := 36) (L' := [xR a, xI i0, xI i1, xU]) (st' := [xL (w4 ((v1.2 a 9) - 1)), xL 0, xL i1]) (fun _ _ _ k => e_iload_n dX10_together_26 rfl (i := 2) (x := i1) rfl (e_i2l dX10_together_27 (e_lconst dX10_together_28 (i := 0) rfl (k8 rfl) (e_aload_n dX10_together_29 rfl (i := 0) (x := a) rfl (e_geti dX10_together_30 flX10_78 (kd10_0 h_a) (Or.inl rfl) (e_iconst dX10_together_33 (k4 rfl) (e_isub dX10_together_34 (e_i2l dX10_together_35 k)))))))) ?_
      refine ev_callS (As := [xL i1, xL 0, xL (w4 ((v1.2 a 9) - 1))]) (st := []) (fun v5 => [xI (xz v5)]) dX10_together_36 mlX10_101 rfl rfl rfl rfl rfl rfl (c_X10_in (d := d + 3) i1 0 (w4 ((v1.2 a 9) - 1))) (fun _ => xz01 _) (fun _ => rfl) (fun v5 => ?_)
      refine ev_br2 (P := v5 = true) (pct := 42) (pcf := 47) (st' := []) (fun _ _ _ kt kf => e_ifeqz dX10_together_39 (tgt := 47) rfl kt kf) (fun h6 => ?_) (fun h6 => ?_)
      · refine ev_st (pc' := 44) (L' := [xR a, xI i0, xI i1, xU]) (st' := [xI i1, xI i0]) (fun _ _ _ k => e_iload_n dX10_together_42 rfl (i := 1) (x := i0) rfl (e_iload_n dX10_together_43 rfl (i := 2) (x := i1) rfl k)) ?_
        refine ev_br2 (P := i0 = i1) (pct := 47) (pcf := 49) (st' := []) (fun _ _ _ kt kf => e_cne dX10_together_44 (tgt := 49) rfl kt kf) (fun h7 => ?_) (fun h7 => ?_)
        · exact ev_ret (e_iconst dX10_together_47 (k4 rfl) (e_iret dX10_together_48))
        · refine ev_st (pc' := 52) (L' := [xR a, xI i0, xI i1, xU]) (st' := [xI i1, xI i0, xR a]) (fun _ _ _ k => e_aload_n dX10_together_49 rfl (i := 0) (x := a) rfl (e_iload_n dX10_together_50 rfl (i := 1) (x := i0) rfl (e_iload_n dX10_together_51 rfl (i := 2) (x := i1) rfl k))) ?_
          refine ev_callV (As := [xI i0, xI i1]) (st := []) (fun v8 => [xI v8]) dX10_together_52 mlX10_116 (kd10_0 h_a) rfl rfl rfl rfl rfl rfl (c_X10_edgeOf (d := d + 3) h_a i0 i1) (fun _ => trivial) (fun _ => rfl) (fun v8 => ?_)
          refine ev_st (pc' := 57) (L' := [xR a, xI i0, xI i1, xI v8]) (st' := [xI v8]) (fun _ _ _ k => e_istore_n dX10_together_55 rfl (i := 3) rfl (L' := [xR a, xI i0, xI i1, xI v8]) rfl (e_iload_n dX10_together_56 rfl (i := 3) (x := v8) rfl k)) ?_
          refine ev_br2 (P := v8 < 0) (pct := 74) (pcf := 60) (st' := []) (fun _ _ _ kt kf => e_iflt dX10_together_57 (tgt := 74) rfl kt kf) (fun h9 => ?_) (fun h9 => ?_)
          · exact ev_ret (e_iconst dX10_together_74 (k4 rfl) (e_goto dX10_together_75 (tgt := 81) rfl (e_iret dX10_together_81)))
          · refine ev_st (pc' := 68) (L' := [xR a, xI i0, xI i1, xI v8]) (st' := [xI v8, xI (v1.2 (a + 1) 8)]) (fun _ _ _ k => e_aload_n dX10_together_60 rfl (i := 0) (x := a) rfl (e_getr dX10_together_61 flX10_7 (kd10_0 h_a) rfl (rf10_0_0 h_a) (e_bipush dX10_together_64 rfl (k4 rfl) (e_iald dX10_together_66 (kd10_1 h_a) (by decide) (by decide) (e_iload_n dX10_together_67 rfl (i := 3) (x := v8) rfl k))))) ?_
            refine ev_callS (As := [xI (v1.2 (a + 1) 8), xI v8]) (st := []) (fun v10 => [xI (xz v10)]) dX10_together_68 mlX10_120 rfl rfl rfl rfl rfl rfl (c_X10_has (d := d + 3) (v1.2 (a + 1) 8) v8) (fun _ => xz01 _) (fun _ => rfl) (fun v10 => ?_)
            refine ev_tern (P := v10 = true) (a := 0) (b := (b4shl 1 v8)) (pct := 74) (pcf := 78) (J := 81) (st' := []) (fun _ _ _ kt kf => e_ifeqz dX10_together_71 (tgt := 78) rfl kt kf) (fun _ _ _ k => e_iconst dX10_together_74 (k4 rfl) (e_goto dX10_together_75 (tgt := 81) rfl k)) (fun _ _ _ k => e_iconst dX10_together_78 (k4 rfl) (e_iload_n dX10_together_79 rfl (i := 3) (x := v8) rfl (e_ishl dX10_together_80 k))) (fun t11 et11 => ?_)
            exact ev_ret (e_iret dX10_together_81)
      · exact ev_ret (e_iconst dX10_together_47 (k4 rfl) (e_iret dX10_together_48))
    · exact ev_ret (e_iconst dX10_together_47 (k4 rfl) (e_iret dX10_together_48))
  · exact ev_ret (e_bipush dX10_together_7 rfl (k4 rfl) (e_iret dX10_together_9))
def lp_X10_joins_2 (a : Nat) (p1 : Int) (p2 : Int) : Nat → Int → xN → (Int → xN → Option (xN)) → Option (xN)
  | 0, _, _, _ => none
  | n + 1, y3, R, X =>
    if (R a 9) ≤ y3 then
    X y3 R
    else
    if 0 ≤ y3 ∧ y3 < 16 then
    if (R (a + 14) (y3).toNat) = p2 then
    if 0 ≤ y3 ∧ y3 < 16 then
    xlet (xup R (a + 14) (y3).toNat p1) (fun R5 =>
    xlet (w4 (y3 + 1)) (fun x6 =>
    lp_X10_joins_2 a p1 p2 n x6 R5 X))
    else none
    else
    if 0 ≤ y3 ∧ y3 < 16 then
    if 0 ≤ y3 ∧ y3 < 16 then
    xlet (xup R (a + 14) (y3).toNat (R (a + 14) (y3).toNat)) (fun R9 =>
    xlet (w4 (y3 + 1)) (fun x10 =>
    lp_X10_joins_2 a p1 p2 n x10 R9 X))
    else none
    else none
    else none
def f_X10_joins (a : Nat) (i0 : Int) (i1 : Int) (R : xN) : Option (xN) :=
  lp_X10_joins_2 a i0 i1 6000 0 R (fun z11 R12 =>
  some R12)
set_option maxRecDepth 20000 in
set_option maxHeartbeats 4000000 in
theorem lc_X10_joins_2 {l : Launch} {g : xG} {d : Nat} {A : xA} {a : Nat} (h_a : sh 10 A a) (p1 : Int) (p2 : Int) {X : Int → xN → Option (xN)} (hX : ∀ (y3 : Int) (R : xN), Ev l g (d) mX10_joins 42 [xU, xU, xU, xU] [] A R (fun _ : xN => none) (fun v => v) (X y3 R)) (n : Nat) (y3 : Int) (R : xN) : Ev l g (d) mX10_joins 2 [xR a, xI p1, xI p2, xI y3] [] A R (fun _ : xN => none) (fun v => v) (lp_X10_joins_2 a p1 p2 n y3 R X) := by
  induction n generalizing y3 R with
  | zero => exact ev_none
  | succ n ih =>
    rw [lp_X10_joins_2]
    refine ev_st (pc' := 7) (L' := [xR a, xI p1, xI p2, xI y3]) (st' := [xI (R a 9), xI y3]) (fun _ _ _ k => e_iload_n dX10_joins_2 rfl (i := 3) (x := y3) rfl (e_aload_n dX10_joins_3 rfl (i := 0) (x := a) rfl (e_geti dX10_joins_4 flX10_78 (kd10_0 h_a) (Or.inl rfl) k))) ?_
    refine ev_br2 (P := (R a 9) ≤ y3) (pct := 42) (pcf := 10) (st' := []) (fun _ _ _ kt kf => e_cge dX10_joins_7 (tgt := 42) rfl kt kf) (fun h1 => ?_) (fun h1 => ?_)
    · refine ev_st (pc' := 42) (L' := [xU, xU, xU, xU]) (st' := []) (fun _ _ _ k => e_fg [0, 1, 2, 3] k) ?_
      exact hX y3 R
    · refine ev_st (pc' := 20) (L' := [xR a, xI p1, xI p2, xI y3]) (st' := [xI y3, xR (a + 14), xI y3, xR (a + 14)]) (fun _ _ _ k => e_aload_n dX10_joins_10 rfl (i := 0) (x := a) rfl (e_getr dX10_joins_11 flX10_49 (kd10_0 h_a) rfl (rf10_0_27 h_a) (e_iload_n dX10_joins_14 rfl (i := 3) (x := y3) rfl (e_aload_n dX10_joins_15 rfl (i := 0) (x := a) rfl (e_getr dX10_joins_16 flX10_49 (kd10_0 h_a) rfl (rf10_0_27 h_a) (e_iload_n dX10_joins_19 rfl (i := 3) (x := y3) rfl k)))))) ?_
      refine ev_chk (fun h2 => ?_)
      refine ev_st (pc' := 21) (L' := [xR a, xI p1, xI p2, xI y3]) (st' := [xI (R (a + 14) (y3).toNat), xI y3, xR (a + 14)]) (fun _ _ _ k => e_iald dX10_joins_20 (kd10_14 h_a) h2.1 h2.2 k) ?_
      refine ev_st (pc' := 22) (L' := [xR a, xI p1, xI p2, xI y3]) (st' := [xI p2, xI (R (a + 14) (y3).toNat), xI y3, xR (a + 14)]) (fun _ _ _ k => e_iload_n dX10_joins_21 rfl (i := 2) (x := p2) rfl k) ?_
      refine ev_br2 (P := (R (a + 14) (y3).toNat) = p2) (pct := 25) (pcf := 29) (st' := [xI y3, xR (a + 14)]) (fun _ _ _ kt kf => e_cne dX10_joins_22 (tgt := 29) rfl kt kf) (fun h3 => ?_) (fun h3 => ?_)
      · refine ev_st (pc' := 35) (L' := [xR a, xI p1, xI p2, xI y3]) (st' := [xI p1, xI y3, xR (a + 14)]) (fun _ _ _ k => e_iload_n dX10_joins_25 rfl (i := 1) (x := p1) rfl (e_goto dX10_joins_26 (tgt := 35) rfl k)) ?_
        refine ev_chk (fun h4 => ?_)
        refine ev_st (pc' := 36) (L' := [xR a, xI p1, xI p2, xI y3]) (st' := []) (fun _ _ _ k => e_iast dX10_joins_35 (kd10_14 h_a) h4.1 h4.2 k) ?_
        refine ev_letR (fun R5 eR5 => ?_)
        refine ev_letx (fun x6 ex6 => ?_)
        refine ev_st (pc' := 39) (L' := [xR a, xI p1, xI p2, xI x6]) (st' := []) (fun _ _ _ k => e_iinc dX10_joins_36 (i := 3) rfl (x := y3) rfl (y := x6) ex6 (L' := [xR a, xI p1, xI p2, xI x6]) rfl k) ?_
        refine ev_st (pc' := 2) (L' := [xR a, xI p1, xI p2, xI x6]) (st' := []) (fun _ _ _ k => e_goto dX10_joins_39 (tgt := 2) rfl k) ?_
        exact ih x6 R5
      · refine ev_st (pc' := 34) (L' := [xR a, xI p1, xI p2, xI y3]) (st' := [xI y3, xR (a + 14), xI y3, xR (a + 14)]) (fun _ _ _ k => e_aload_n dX10_joins_29 rfl (i := 0) (x := a) rfl (e_getr dX10_joins_30 flX10_49 (kd10_0 h_a) rfl (rf10_0_27 h_a) (e_iload_n dX10_joins_33 rfl (i := 3) (x := y3) rfl k))) ?_
        refine ev_chk (fun h7 => ?_)
        refine ev_st (pc' := 35) (L' := [xR a, xI p1, xI p2, xI y3]) (st' := [xI (R (a + 14) (y3).toNat), xI y3, xR (a + 14)]) (fun _ _ _ k => e_iald dX10_joins_34 (kd10_14 h_a) h7.1 h7.2 k) ?_
        refine ev_chk (fun h8 => ?_)
        refine ev_st (pc' := 36) (L' := [xR a, xI p1, xI p2, xI y3]) (st' := []) (fun _ _ _ k => e_iast dX10_joins_35 (kd10_14 h_a) h8.1 h8.2 k) ?_
        refine ev_letR (fun R9 eR9 => ?_)
        refine ev_letx (fun x10 ex10 => ?_)
        refine ev_st (pc' := 39) (L' := [xR a, xI p1, xI p2, xI x10]) (st' := []) (fun _ _ _ k => e_iinc dX10_joins_36 (i := 3) rfl (x := y3) rfl (y := x10) ex10 (L' := [xR a, xI p1, xI p2, xI x10]) rfl k) ?_
        refine ev_st (pc' := 2) (L' := [xR a, xI p1, xI p2, xI x10]) (st' := []) (fun _ _ _ k => e_goto dX10_joins_39 (tgt := 2) rfl k) ?_
        exact ih x10 R9
set_option maxRecDepth 20000 in
set_option maxHeartbeats 4000000 in
theorem c_X10_joins {l : Launch} {g : xG} {d : Nat} {A : xA} {R : xN} {a : Nat} (h_a : sh 10 A a) (i0 : Int) (i1 : Int) : Ev l g (d) mX10_joins 0 [xR a, xI i0, xI i1, xU] [] A R (fun _ : xN => none) (fun v => v) (f_X10_joins a i0 i1 R) := by
  rw [f_X10_joins]
  refine ev_st (pc' := 2) (L' := [xR a, xI i0, xI i1, xI 0]) (st' := []) (fun _ _ _ k => e_iconst dX10_joins_0 (k4 rfl) (e_istore_n dX10_joins_1 rfl (i := 3) rfl (L' := [xR a, xI i0, xI i1, xI 0]) rfl k)) ?_
  refine lc_X10_joins_2 h_a i0 i1 (fun z11 R12 => ?_) 6000 0 R
  exact ev_ret (e_vret dX10_joins_42)
def lp_X10_pieces_34 (a : Nat) : Nat → Int → xN → (Int → xN → Option (Int × xN)) → Option (Int × xN)
  | 0, _, _, _ => none
  | n + 1, y2, R, X =>
    if (R a 9) ≤ y2 then
    X y2 R
    else
    xlet (if 1 ≤ y2 then y2 else 0) (fun t5 =>
    if 0 ≤ y2 ∧ y2 < 16 then
    xlet (xup R (a + 14) (y2).toNat t5) (fun R7 =>
    xlet (w4 (y2 + 1)) (fun x8 =>
    lp_X10_pieces_34 a n x8 R7 X))
    else none)
def lp_X10_pieces_81 (a : Nat) (p3 : Int) : Nat → Int → xN → (Int → xN → Option (Int × xN)) → Option (Int × xN)
  | 0, _, _, _ => none
  | n + 1, y4, R, X =>
    if (R a 9) ≤ y4 then
    X y4 R
    else
    (f_X10_edgeOf a p3 y4 R).bind (fun v14 =>
    if v14 < 0 then
    xlet (w4 (y4 + 1)) (fun x16 =>
    lp_X10_pieces_81 a p3 n x16 R X)
    else
    (f_X10_has (R (a + 1) 8) v14 R).bind (fun v17 =>
    if v17 = true then
    xlet (w4 (y4 + 1)) (fun x19 =>
    lp_X10_pieces_81 a p3 n x19 R X)
    else
    if 0 ≤ p3 ∧ p3 < 16 then
    if 0 ≤ y4 ∧ y4 < 16 then
    (f_X10_joins a (R (a + 14) (p3).toNat) (R (a + 14) (y4).toNat) R).bind (fun v22 =>
    xlet (w4 (y4 + 1)) (fun x23 =>
    lp_X10_pieces_81 a p3 n x23 v22 X))
    else none
    else none))
def lp_X10_pieces_68 (a : Nat) : Nat → Int → xN → (Int → xN → Option (Int × xN)) → Option (Int × xN)
  | 0, _, _, _ => none
  | n + 1, y3, R, X =>
    if (R a 9) ≤ y3 then
    X y3 R
    else
    xlet (w4 (y3 + 1)) (fun x12 =>
    lp_X10_pieces_81 a y3 6000 x12 R (fun z24 R25 =>
    xlet (w4 (y3 + 1)) (fun x26 =>
    lp_X10_pieces_68 a n x26 R25 X)))
def lp_X10_pieces_153 (a : Nat) (R : xN) : Nat → Int → Int → (Int → Int → Option (Int × xN)) → Option (Int × xN)
  | 0, _, _, _ => none
  | n + 1, y3, y4, X =>
    if (R a 9) ≤ y4 then
    X y3 y4
    else
    if 0 ≤ y4 ∧ y4 < 16 then
    xlet (b4or y3 (b4shl 1 (R (a + 14) (y4).toNat))) (fun x31 =>
    xlet (w4 (y4 + 1)) (fun x32 =>
    lp_X10_pieces_153 a R n x31 x32 X))
    else none
def lp_X10_pieces_34_1 (a : Nat) (p1 : Int) : Nat → Int → xN → (Int → xN → Option (Int × xN)) → Option (Int × xN)
  | 0, _, _, _ => none
  | n + 1, y2, R, X =>
    if (R a 9) ≤ y2 then
    X y2 R
    else
    xlet (if p1 ≤ y2 then y2 else 0) (fun t38 =>
    if 0 ≤ y2 ∧ y2 < 16 then
    xlet (xup R (a + 14) (y2).toNat t38) (fun R40 =>
    xlet (w4 (y2 + 1)) (fun x41 =>
    lp_X10_pieces_34_1 a p1 n x41 R40 X))
    else none)
def f_X10_pieces (a : Nat) (R : xN) : Option (Int × xN) :=
  (f_X10_isBooklet a R).bind (fun v1 =>
  if v1.1 = true then
  if (v1.2 (a + 1) 9) = 0 then
  lp_X10_pieces_34 a 6000 0 v1.2 (fun z9 R10 =>
  lp_X10_pieces_68 a 6000 0 R10 (fun z27 R28 =>
  lp_X10_pieces_153 a R28 6000 0 0 (fun z33 z34 =>
  (f_X10_ones z33 R28).bind (fun v35 =>
  some ((w4 (0 + v35)), R28)))))
  else
  xlet (v1.2 (a + 1) 10) (fun x36 =>
  lp_X10_pieces_34_1 a x36 6000 0 v1.2 (fun z42 R43 =>
  lp_X10_pieces_68 a 6000 0 R43 (fun z44 R45 =>
  lp_X10_pieces_153 a R45 6000 0 0 (fun z46 z47 =>
  (f_X10_ones z46 R45).bind (fun v48 =>
  some ((w4 (0 + v48)), R45))))))
  else
  some ((-2), v1.2))
set_option maxRecDepth 20000 in
set_option maxHeartbeats 4000000 in
theorem lc_X10_pieces_34 {l : Launch} {g : xG} {d : Nat} {A : xA} {a : Nat} (h_a : sh 10 A a)  {X : Int → xN → Option (Int × xN)} (hX : ∀ (y2 : Int) (R : xN), Ev l g (d + 4) mX10_pieces 64 [xR a, xU, xU, xU, xU, xU] [] A R (fun v : Int × xN => some (xI v.1)) (fun v => v.2) (X y2 R)) (n : Nat) (y2 : Int) (R : xN) : Ev l g (d + 4) mX10_pieces 34 [xR a, xI 1, xI y2, xU, xU, xU] [] A R (fun v : Int × xN => some (xI v.1)) (fun v => v.2) (lp_X10_pieces_34 a n y2 R X) := by
  induction n generalizing y2 R with
  | zero => exact ev_none
  | succ n ih =>
    rw [lp_X10_pieces_34]
    refine ev_st (pc' := 39) (L' := [xR a, xI 1, xI y2, xU, xU, xU]) (st' := [xI (R a 9), xI y2]) (fun _ _ _ k => e_iload_n dX10_pieces_34 rfl (i := 2) (x := y2) rfl (e_aload_n dX10_pieces_35 rfl (i := 0) (x := a) rfl (e_geti dX10_pieces_36 flX10_78 (kd10_0 h_a) (Or.inl rfl) k))) ?_
    refine ev_br2 (P := (R a 9) ≤ y2) (pct := 64) (pcf := 42) (st' := []) (fun _ _ _ kt kf => e_cge dX10_pieces_39 (tgt := 64) rfl kt kf) (fun h4 => ?_) (fun h4 => ?_)
    · refine ev_st (pc' := 64) (L' := [xR a, xU, xU, xU, xU, xU]) (st' := []) (fun _ _ _ k => e_fg [1, 2] k) ?_
      exact hX y2 R
    · refine ev_st (pc' := 49) (L' := [xR a, xI 1, xI y2, xU, xU, xU]) (st' := [xI 1, xI y2, xI y2, xR (a + 14)]) (fun _ _ _ k => e_aload_n dX10_pieces_42 rfl (i := 0) (x := a) rfl (e_getr dX10_pieces_43 flX10_49 (kd10_0 h_a) rfl (rf10_0_27 h_a) (e_iload_n dX10_pieces_46 rfl (i := 2) (x := y2) rfl (e_iload_n dX10_pieces_47 rfl (i := 2) (x := y2) rfl (e_iload_n dX10_pieces_48 rfl (i := 1) (x := 1) rfl k))))) ?_
      refine ev_tern (P := 1 ≤ y2) (a := y2) (b := 0) (pct := 56) (pcf := 52) (J := 57) (st' := [xI y2, xR (a + 14)]) (fun _ _ _ kt kf => e_cge dX10_pieces_49 (tgt := 56) rfl kt kf) (fun _ _ _ k => e_iload_n dX10_pieces_56 rfl (i := 2) (x := y2) rfl k) (fun _ _ _ k => e_iconst dX10_pieces_52 (k4 rfl) (e_goto dX10_pieces_53 (tgt := 57) rfl k)) (fun t5 et5 => ?_)
      refine ev_chk (fun h6 => ?_)
      refine ev_st (pc' := 58) (L' := [xR a, xI 1, xI y2, xU, xU, xU]) (st' := []) (fun _ _ _ k => e_iast dX10_pieces_57 (kd10_14 h_a) h6.1 h6.2 k) ?_
      refine ev_letR (fun R7 eR7 => ?_)
      refine ev_letx (fun x8 ex8 => ?_)
      refine ev_st (pc' := 61) (L' := [xR a, xI 1, xI x8, xU, xU, xU]) (st' := []) (fun _ _ _ k => e_iinc dX10_pieces_58 (i := 2) rfl (x := y2) rfl (y := x8) ex8 (L' := [xR a, xI 1, xI x8, xU, xU, xU]) rfl k) ?_
      refine ev_st (pc' := 34) (L' := [xR a, xI 1, xI x8, xU, xU, xU]) (st' := []) (fun _ _ _ k => e_goto dX10_pieces_61 (tgt := 34) rfl k) ?_
      exact ih x8 R7
set_option maxRecDepth 20000 in
set_option maxHeartbeats 4000000 in
theorem lc_X10_pieces_81 {l : Launch} {g : xG} {d : Nat} {A : xA} {a : Nat} (h_a : sh 10 A a) (p3 : Int) {X : Int → xN → Option (Int × xN)} (hX : ∀ (y4 : Int) (R : xN), Ev l g (d + 4) mX10_pieces 142 [xR a, xU, xI 0, xI p3, xU, xU] [] A R (fun v : Int × xN => some (xI v.1)) (fun v => v.2) (X y4 R)) (n : Nat) (y4 : Int) (R : xN) : Ev l g (d + 4) mX10_pieces 81 [xR a, xU, xI 0, xI p3, xI y4, xU] [] A R (fun v : Int × xN => some (xI v.1)) (fun v => v.2) (lp_X10_pieces_81 a p3 n y4 R X) := by
  induction n generalizing y4 R with
  | zero => exact ev_none
  | succ n ih =>
    rw [lp_X10_pieces_81]
    refine ev_st (pc' := 87) (L' := [xR a, xU, xI 0, xI p3, xI y4, xU]) (st' := [xI (R a 9), xI y4]) (fun _ _ _ k => e_iload dX10_pieces_81 (i := 4) (x := y4) rfl (e_aload_n dX10_pieces_83 rfl (i := 0) (x := a) rfl (e_geti dX10_pieces_84 flX10_78 (kd10_0 h_a) (Or.inl rfl) k))) ?_
    refine ev_br2 (P := (R a 9) ≤ y4) (pct := 142) (pcf := 90) (st' := []) (fun _ _ _ kt kf => e_cge dX10_pieces_87 (tgt := 142) rfl kt kf) (fun h13 => ?_) (fun h13 => ?_)
    · refine ev_st (pc' := 142) (L' := [xR a, xU, xI 0, xI p3, xU, xU]) (st' := []) (fun _ _ _ k => e_fg [4] k) ?_
      exact hX y4 R
    · refine ev_st (pc' := 94) (L' := [xR a, xU, xI 0, xI p3, xI y4, xU]) (st' := [xI y4, xI p3, xR a]) (fun _ _ _ k => e_aload_n dX10_pieces_90 rfl (i := 0) (x := a) rfl (e_iload_n dX10_pieces_91 rfl (i := 3) (x := p3) rfl (e_iload dX10_pieces_92 (i := 4) (x := y4) rfl k))) ?_
      refine ev_callV (As := [xI p3, xI y4]) (st := []) (fun v14 => [xI v14]) dX10_pieces_94 mlX10_116 (kd10_0 h_a) rfl rfl rfl rfl rfl rfl (c_X10_edgeOf (d := d + 3) h_a p3 y4) (fun _ => trivial) (fun _ => rfl) (fun v14 => ?_)
      refine ev_st (pc' := 101) (L' := [xR a, xU, xI 0, xI p3, xI y4, xI v14]) (st' := [xI v14]) (fun _ _ _ k => e_istore dX10_pieces_97 (i := 5) rfl (L' := [xR a, xU, xI 0, xI p3, xI y4, xI v14]) rfl (e_iload dX10_pieces_99 (i := 5) (x := v14) rfl k)) ?_
      refine ev_br2 (P := v14 < 0) (pct := 136) (pcf := 104) (st' := []) (fun _ _ _ kt kf => e_iflt dX10_pieces_101 (tgt := 136) rfl kt kf) (fun h15 => ?_) (fun h15 => ?_)
      · refine ev_letx (fun x16 ex16 => ?_)
        refine ev_st (pc' := 139) (L' := [xR a, xU, xI 0, xI p3, xI x16, xI v14]) (st' := []) (fun _ _ _ k => e_iinc dX10_pieces_136 (i := 4) rfl (x := y4) rfl (y := x16) ex16 (L' := [xR a, xU, xI 0, xI p3, xI x16, xI v14]) rfl k) ?_
        refine ev_st (pc' := 81) (L' := [xR a, xU, xI 0, xI p3, xI x16, xU]) (st' := []) (fun _ _ _ k => e_goto dX10_pieces_139 (tgt := 81) rfl (e_fg [5] k)) ?_
        exact ih x16 R
      · refine ev_st (pc' := 113) (L' := [xR a, xU, xI 0, xI p3, xI y4, xI v14]) (st' := [xI v14, xI (R (a + 1) 8)]) (fun _ _ _ k => e_aload_n dX10_pieces_104 rfl (i := 0) (x := a) rfl (e_getr dX10_pieces_105 flX10_7 (kd10_0 h_a) rfl (rf10_0_0 h_a) (e_bipush dX10_pieces_108 rfl (k4 rfl) (e_iald dX10_pieces_110 (kd10_1 h_a) (by decide) (by decide) (e_iload dX10_pieces_111 (i := 5) (x := v14) rfl k))))) ?_
        refine ev_callS (As := [xI (R (a + 1) 8), xI v14]) (st := []) (fun v17 => [xI (xz v17)]) dX10_pieces_113 mlX10_120 rfl rfl rfl rfl rfl rfl (c_X10_has (d := d + 3) (R (a + 1) 8) v14) (fun _ => xz01 _) (fun _ => rfl) (fun v17 => ?_)
        refine ev_br2 (P := v17 = true) (pct := 136) (pcf := 119) (st' := []) (fun _ _ _ kt kf => e_ifnez dX10_pieces_116 (tgt := 136) rfl kt kf) (fun h18 => ?_) (fun h18 => ?_)
        · refine ev_letx (fun x19 ex19 => ?_)
          refine ev_st (pc' := 139) (L' := [xR a, xU, xI 0, xI p3, xI x19, xI v14]) (st' := []) (fun _ _ _ k => e_iinc dX10_pieces_136 (i := 4) rfl (x := y4) rfl (y := x19) ex19 (L' := [xR a, xU, xI 0, xI p3, xI x19, xI v14]) rfl k) ?_
          refine ev_st (pc' := 81) (L' := [xR a, xU, xI 0, xI p3, xI x19, xU]) (st' := []) (fun _ _ _ k => e_goto dX10_pieces_139 (tgt := 81) rfl (e_fg [5] k)) ?_
          exact ih x19 R
        · refine ev_st (pc' := 125) (L' := [xR a, xU, xI 0, xI p3, xI y4, xI v14]) (st' := [xI p3, xR (a + 14), xR a]) (fun _ _ _ k => e_aload_n dX10_pieces_119 rfl (i := 0) (x := a) rfl (e_aload_n dX10_pieces_120 rfl (i := 0) (x := a) rfl (e_getr dX10_pieces_121 flX10_49 (kd10_0 h_a) rfl (rf10_0_27 h_a) (e_iload_n dX10_pieces_124 rfl (i := 3) (x := p3) rfl k)))) ?_
          refine ev_chk (fun h20 => ?_)
          refine ev_st (pc' := 126) (L' := [xR a, xU, xI 0, xI p3, xI y4, xI v14]) (st' := [xI (R (a + 14) (p3).toNat), xR a]) (fun _ _ _ k => e_iald dX10_pieces_125 (kd10_14 h_a) h20.1 h20.2 k) ?_
          refine ev_st (pc' := 132) (L' := [xR a, xU, xI 0, xI p3, xI y4, xI v14]) (st' := [xI y4, xR (a + 14), xI (R (a + 14) (p3).toNat), xR a]) (fun _ _ _ k => e_aload_n dX10_pieces_126 rfl (i := 0) (x := a) rfl (e_getr dX10_pieces_127 flX10_49 (kd10_0 h_a) rfl (rf10_0_27 h_a) (e_iload dX10_pieces_130 (i := 4) (x := y4) rfl k))) ?_
          refine ev_chk (fun h21 => ?_)
          refine ev_st (pc' := 133) (L' := [xR a, xU, xI 0, xI p3, xI y4, xI v14]) (st' := [xI (R (a + 14) (y4).toNat), xI (R (a + 14) (p3).toNat), xR a]) (fun _ _ _ k => e_iald dX10_pieces_132 (kd10_14 h_a) h21.1 h21.2 k) ?_
          refine ev_callV (As := [xI (R (a + 14) (p3).toNat), xI (R (a + 14) (y4).toNat)]) (st := []) (fun v22 => []) dX10_pieces_133 mlX10_331 (kd10_0 h_a) rfl rfl rfl rfl rfl rfl (c_X10_joins (d := d + 3) h_a (R (a + 14) (p3).toNat) (R (a + 14) (y4).toNat)) (fun _ => trivial) (fun _ => rfl) (fun v22 => ?_)
          refine ev_letx (fun x23 ex23 => ?_)
          refine ev_st (pc' := 139) (L' := [xR a, xU, xI 0, xI p3, xI x23, xI v14]) (st' := []) (fun _ _ _ k => e_iinc dX10_pieces_136 (i := 4) rfl (x := y4) rfl (y := x23) ex23 (L' := [xR a, xU, xI 0, xI p3, xI x23, xI v14]) rfl k) ?_
          refine ev_st (pc' := 81) (L' := [xR a, xU, xI 0, xI p3, xI x23, xU]) (st' := []) (fun _ _ _ k => e_goto dX10_pieces_139 (tgt := 81) rfl (e_fg [5] k)) ?_
          exact ih x23 v22
set_option maxRecDepth 20000 in
set_option maxHeartbeats 4000000 in
theorem lc_X10_pieces_68 {l : Launch} {g : xG} {d : Nat} {A : xA} {a : Nat} (h_a : sh 10 A a)  {X : Int → xN → Option (Int × xN)} (hX : ∀ (y3 : Int) (R : xN), Ev l g (d + 4) mX10_pieces 148 [xR a, xU, xI 0, xU, xU, xU] [] A R (fun v : Int × xN => some (xI v.1)) (fun v => v.2) (X y3 R)) (n : Nat) (y3 : Int) (R : xN) : Ev l g (d + 4) mX10_pieces 68 [xR a, xU, xI 0, xI y3, xU, xU] [] A R (fun v : Int × xN => some (xI v.1)) (fun v => v.2) (lp_X10_pieces_68 a n y3 R X) := by
  induction n generalizing y3 R with
  | zero => exact ev_none
  | succ n ih =>
    rw [lp_X10_pieces_68]
    refine ev_st (pc' := 73) (L' := [xR a, xU, xI 0, xI y3, xU, xU]) (st' := [xI (R a 9), xI y3]) (fun _ _ _ k => e_iload_n dX10_pieces_68 rfl (i := 3) (x := y3) rfl (e_aload_n dX10_pieces_69 rfl (i := 0) (x := a) rfl (e_geti dX10_pieces_70 flX10_78 (kd10_0 h_a) (Or.inl rfl) k))) ?_
    refine ev_br2 (P := (R a 9) ≤ y3) (pct := 148) (pcf := 76) (st' := []) (fun _ _ _ kt kf => e_cge dX10_pieces_73 (tgt := 148) rfl kt kf) (fun h11 => ?_) (fun h11 => ?_)
    · refine ev_st (pc' := 148) (L' := [xR a, xU, xI 0, xU, xU, xU]) (st' := []) (fun _ _ _ k => e_fg [3] k) ?_
      exact hX y3 R
    · refine ev_st (pc' := 79) (L' := [xR a, xU, xI 0, xI y3, xU, xU]) (st' := [xI (w4 (y3 + 1))]) (fun _ _ _ k => e_iload_n dX10_pieces_76 rfl (i := 3) (x := y3) rfl (e_iconst dX10_pieces_77 (k4 rfl) (e_iadd dX10_pieces_78 k))) ?_
      refine ev_leti (fun x12 ex12 => ?_)
      refine ev_st (pc' := 81) (L' := [xR a, xU, xI 0, xI y3, xI x12, xU]) (st' := []) (fun _ _ _ k => e_istore dX10_pieces_79 (i := 4) rfl (L' := [xR a, xU, xI 0, xI y3, xI x12, xU]) rfl k) ?_
      refine lc_X10_pieces_81 h_a y3 (fun z24 R25 => ?_) 6000 x12 R
      refine ev_letx (fun x26 ex26 => ?_)
      refine ev_st (pc' := 145) (L' := [xR a, xU, xI 0, xI x26, xU, xU]) (st' := []) (fun _ _ _ k => e_iinc dX10_pieces_142 (i := 3) rfl (x := y3) rfl (y := x26) ex26 (L' := [xR a, xU, xI 0, xI x26, xU, xU]) rfl k) ?_
      refine ev_st (pc' := 68) (L' := [xR a, xU, xI 0, xI x26, xU, xU]) (st' := []) (fun _ _ _ k => e_goto dX10_pieces_145 (tgt := 68) rfl k) ?_
      exact ih x26 R25
set_option maxRecDepth 20000 in
set_option maxHeartbeats 4000000 in
theorem lc_X10_pieces_153 {l : Launch} {g : xG} {d : Nat} {A : xA} {a : Nat} (h_a : sh 10 A a) (R : xN) {X : Int → Int → Option (Int × xN)} (hX : ∀ (y3 : Int) (y4 : Int), Ev l g (d + 4) mX10_pieces 180 [xU, xU, xI 0, xI y3, xU, xU] [] A R (fun v : Int × xN => some (xI v.1)) (fun v => v.2) (X y3 y4)) (n : Nat) (y3 : Int) (y4 : Int) : Ev l g (d + 4) mX10_pieces 153 [xR a, xU, xI 0, xI y3, xI y4, xU] [] A R (fun v : Int × xN => some (xI v.1)) (fun v => v.2) (lp_X10_pieces_153 a R n y3 y4 X) := by
  induction n generalizing y3 y4 with
  | zero => exact ev_none
  | succ n ih =>
    rw [lp_X10_pieces_153]
    refine ev_st (pc' := 159) (L' := [xR a, xU, xI 0, xI y3, xI y4, xU]) (st' := [xI (R a 9), xI y4]) (fun _ _ _ k => e_iload dX10_pieces_153 (i := 4) (x := y4) rfl (e_aload_n dX10_pieces_155 rfl (i := 0) (x := a) rfl (e_geti dX10_pieces_156 flX10_78 (kd10_0 h_a) (Or.inl rfl) k))) ?_
    refine ev_br2 (P := (R a 9) ≤ y4) (pct := 180) (pcf := 162) (st' := []) (fun _ _ _ kt kf => e_cge dX10_pieces_159 (tgt := 180) rfl kt kf) (fun h29 => ?_) (fun h29 => ?_)
    · refine ev_st (pc' := 180) (L' := [xU, xU, xI 0, xI y3, xU, xU]) (st' := []) (fun _ _ _ k => e_fg [0, 4] k) ?_
      exact hX y3 y4
    · refine ev_st (pc' := 170) (L' := [xR a, xU, xI 0, xI y3, xI y4, xU]) (st' := [xI y4, xR (a + 14), xI 1, xI y3]) (fun _ _ _ k => e_iload_n dX10_pieces_162 rfl (i := 3) (x := y3) rfl (e_iconst dX10_pieces_163 (k4 rfl) (e_aload_n dX10_pieces_164 rfl (i := 0) (x := a) rfl (e_getr dX10_pieces_165 flX10_49 (kd10_0 h_a) rfl (rf10_0_27 h_a) (e_iload dX10_pieces_168 (i := 4) (x := y4) rfl k))))) ?_
      refine ev_chk (fun h30 => ?_)
      refine ev_st (pc' := 171) (L' := [xR a, xU, xI 0, xI y3, xI y4, xU]) (st' := [xI (R (a + 14) (y4).toNat), xI 1, xI y3]) (fun _ _ _ k => e_iald dX10_pieces_170 (kd10_14 h_a) h30.1 h30.2 k) ?_
      refine ev_st (pc' := 173) (L' := [xR a, xU, xI 0, xI y3, xI y4, xU]) (st' := [xI (b4or y3 (b4shl 1 (R (a + 14) (y4).toNat)))]) (fun _ _ _ k => e_ishl dX10_pieces_171 (e_ior dX10_pieces_172 k)) ?_
      refine ev_leti (fun x31 ex31 => ?_)
      refine ev_st (pc' := 174) (L' := [xR a, xU, xI 0, xI x31, xI y4, xU]) (st' := []) (fun _ _ _ k => e_istore_n dX10_pieces_173 rfl (i := 3) rfl (L' := [xR a, xU, xI 0, xI x31, xI y4, xU]) rfl k) ?_
      refine ev_letx (fun x32 ex32 => ?_)
      refine ev_st (pc' := 177) (L' := [xR a, xU, xI 0, xI x31, xI x32, xU]) (st' := []) (fun _ _ _ k => e_iinc dX10_pieces_174 (i := 4) rfl (x := y4) rfl (y := x32) ex32 (L' := [xR a, xU, xI 0, xI x31, xI x32, xU]) rfl k) ?_
      refine ev_st (pc' := 153) (L' := [xR a, xU, xI 0, xI x31, xI x32, xU]) (st' := []) (fun _ _ _ k => e_goto dX10_pieces_177 (tgt := 153) rfl k) ?_
      exact ih x31 x32
set_option maxRecDepth 20000 in
set_option maxHeartbeats 4000000 in
theorem lc_X10_pieces_34_1 {l : Launch} {g : xG} {d : Nat} {A : xA} {a : Nat} (h_a : sh 10 A a) (p1 : Int) {X : Int → xN → Option (Int × xN)} (hX : ∀ (y2 : Int) (R : xN), Ev l g (d + 4) mX10_pieces 64 [xR a, xU, xU, xU, xU, xU] [] A R (fun v : Int × xN => some (xI v.1)) (fun v => v.2) (X y2 R)) (n : Nat) (y2 : Int) (R : xN) : Ev l g (d + 4) mX10_pieces 34 [xR a, xI p1, xI y2, xU, xU, xU] [] A R (fun v : Int × xN => some (xI v.1)) (fun v => v.2) (lp_X10_pieces_34_1 a p1 n y2 R X) := by
  induction n generalizing y2 R with
  | zero => exact ev_none
  | succ n ih =>
    rw [lp_X10_pieces_34_1]
    refine ev_st (pc' := 39) (L' := [xR a, xI p1, xI y2, xU, xU, xU]) (st' := [xI (R a 9), xI y2]) (fun _ _ _ k => e_iload_n dX10_pieces_34 rfl (i := 2) (x := y2) rfl (e_aload_n dX10_pieces_35 rfl (i := 0) (x := a) rfl (e_geti dX10_pieces_36 flX10_78 (kd10_0 h_a) (Or.inl rfl) k))) ?_
    refine ev_br2 (P := (R a 9) ≤ y2) (pct := 64) (pcf := 42) (st' := []) (fun _ _ _ kt kf => e_cge dX10_pieces_39 (tgt := 64) rfl kt kf) (fun h37 => ?_) (fun h37 => ?_)
    · refine ev_st (pc' := 64) (L' := [xR a, xU, xU, xU, xU, xU]) (st' := []) (fun _ _ _ k => e_fg [1, 2] k) ?_
      exact hX y2 R
    · refine ev_st (pc' := 49) (L' := [xR a, xI p1, xI y2, xU, xU, xU]) (st' := [xI p1, xI y2, xI y2, xR (a + 14)]) (fun _ _ _ k => e_aload_n dX10_pieces_42 rfl (i := 0) (x := a) rfl (e_getr dX10_pieces_43 flX10_49 (kd10_0 h_a) rfl (rf10_0_27 h_a) (e_iload_n dX10_pieces_46 rfl (i := 2) (x := y2) rfl (e_iload_n dX10_pieces_47 rfl (i := 2) (x := y2) rfl (e_iload_n dX10_pieces_48 rfl (i := 1) (x := p1) rfl k))))) ?_
      refine ev_tern (P := p1 ≤ y2) (a := y2) (b := 0) (pct := 56) (pcf := 52) (J := 57) (st' := [xI y2, xR (a + 14)]) (fun _ _ _ kt kf => e_cge dX10_pieces_49 (tgt := 56) rfl kt kf) (fun _ _ _ k => e_iload_n dX10_pieces_56 rfl (i := 2) (x := y2) rfl k) (fun _ _ _ k => e_iconst dX10_pieces_52 (k4 rfl) (e_goto dX10_pieces_53 (tgt := 57) rfl k)) (fun t38 et38 => ?_)
      refine ev_chk (fun h39 => ?_)
      refine ev_st (pc' := 58) (L' := [xR a, xI p1, xI y2, xU, xU, xU]) (st' := []) (fun _ _ _ k => e_iast dX10_pieces_57 (kd10_14 h_a) h39.1 h39.2 k) ?_
      refine ev_letR (fun R40 eR40 => ?_)
      refine ev_letx (fun x41 ex41 => ?_)
      refine ev_st (pc' := 61) (L' := [xR a, xI p1, xI x41, xU, xU, xU]) (st' := []) (fun _ _ _ k => e_iinc dX10_pieces_58 (i := 2) rfl (x := y2) rfl (y := x41) ex41 (L' := [xR a, xI p1, xI x41, xU, xU, xU]) rfl k) ?_
      refine ev_st (pc' := 34) (L' := [xR a, xI p1, xI x41, xU, xU, xU]) (st' := []) (fun _ _ _ k => e_goto dX10_pieces_61 (tgt := 34) rfl k) ?_
      exact ih x41 R40
set_option maxRecDepth 20000 in
set_option maxHeartbeats 4000000 in
theorem c_X10_pieces {l : Launch} {g : xG} {d : Nat} {A : xA} {R : xN} {a : Nat} (h_a : sh 10 A a)  : Ev l g (d + 4) mX10_pieces 0 [xR a, xU, xU, xU, xU, xU] [] A R (fun v : Int × xN => some (xI v.1)) (fun v => v.2) (f_X10_pieces a R) := by
  rw [f_X10_pieces]
  refine ev_st (pc' := 1) (L' := [xR a, xU, xU, xU, xU, xU]) (st' := [xR a]) (fun _ _ _ k => e_aload_n dX10_pieces_0 rfl (i := 0) (x := a) rfl k) ?_
  refine ev_callV (As := []) (st := []) (fun v1 => [xI (xz v1.1)]) dX10_pieces_1 mlX10_162 (kd10_0 h_a) rfl rfl rfl rfl rfl rfl (c_X10_isBooklet (d := d) h_a) (fun _ => xz01 _) (fun _ => rfl) (fun v1 => ?_)
  refine ev_br2 (P := v1.1 = true) (pct := 10) (pcf := 7) (st' := []) (fun _ _ _ kt kf => e_ifnez dX10_pieces_4 (tgt := 10) rfl kt kf) (fun h2 => ?_) (fun h2 => ?_)
  · refine ev_st (pc' := 17) (L' := [xR a, xU, xU, xU, xU, xU]) (st' := [xI (v1.2 (a + 1) 9)]) (fun _ _ _ k => e_aload_n dX10_pieces_10 rfl (i := 0) (x := a) rfl (e_getr dX10_pieces_11 flX10_7 (kd10_0 h_a) rfl (rf10_0_0 h_a) (e_bipush dX10_pieces_14 rfl (k4 rfl) (e_iald dX10_pieces_16 (kd10_1 h_a) (by decide) (by decide) k)))) ?_
    refine ev_br2 (P := (v1.2 (a + 1) 9) = 0) (pct := 20) (pcf := 24) (st' := []) (fun _ _ _ kt kf => e_ifne dX10_pieces_17 (tgt := 24) rfl kt kf) (fun h3 => ?_) (fun h3 => ?_)
    · refine ev_st (pc' := 34) (L' := [xR a, xI 1, xI 0, xU, xU, xU]) (st' := []) (fun _ _ _ k => e_iconst dX10_pieces_20 (k4 rfl) (e_goto dX10_pieces_21 (tgt := 31) rfl (e_istore_n dX10_pieces_31 rfl (i := 1) rfl (L' := [xR a, xI 1, xU, xU, xU, xU]) rfl (e_iconst dX10_pieces_32 (k4 rfl) (e_istore_n dX10_pieces_33 rfl (i := 2) rfl (L' := [xR a, xI 1, xI 0, xU, xU, xU]) rfl k))))) ?_
      refine lc_X10_pieces_34 h_a (fun z9 R10 => ?_) 6000 0 v1.2
      refine ev_st (pc' := 68) (L' := [xR a, xU, xI 0, xI 0, xU, xU]) (st' := []) (fun _ _ _ k => e_iconst dX10_pieces_64 (k4 rfl) (e_istore_n dX10_pieces_65 rfl (i := 2) rfl (L' := [xR a, xU, xI 0, xU, xU, xU]) rfl (e_iconst dX10_pieces_66 (k4 rfl) (e_istore_n dX10_pieces_67 rfl (i := 3) rfl (L' := [xR a, xU, xI 0, xI 0, xU, xU]) rfl k)))) ?_
      refine lc_X10_pieces_68 h_a (fun z27 R28 => ?_) 6000 0 R10
      refine ev_st (pc' := 153) (L' := [xR a, xU, xI 0, xI 0, xI 0, xU]) (st' := []) (fun _ _ _ k => e_iconst dX10_pieces_148 (k4 rfl) (e_istore_n dX10_pieces_149 rfl (i := 3) rfl (L' := [xR a, xU, xI 0, xI 0, xU, xU]) rfl (e_iconst dX10_pieces_150 (k4 rfl) (e_istore dX10_pieces_151 (i := 4) rfl (L' := [xR a, xU, xI 0, xI 0, xI 0, xU]) rfl k)))) ?_
      refine lc_X10_pieces_153 h_a R28 (fun z33 z34 => ?_) 6000 0 0
      refine ev_st (pc' := 182) (L' := [xU, xU, xI 0, xI z33, xU, xU]) (st' := [xI z33, xI 0]) (fun _ _ _ k => e_iload_n dX10_pieces_180 rfl (i := 2) (x := 0) rfl (e_iload_n dX10_pieces_181 rfl (i := 3) (x := z33) rfl k)) ?_
      refine ev_callS (As := [xI z33]) (st := [xI 0]) (fun v35 => [xI v35, xI 0]) dX10_pieces_182 mlX10_170 rfl rfl rfl rfl rfl rfl (c_X10_ones (d := d + 3) z33) (fun _ => trivial) (fun _ => rfl) (fun v35 => ?_)
      exact ev_ret (e_iadd dX10_pieces_185 (e_iret dX10_pieces_186))
    · refine ev_st (pc' := 31) (L' := [xR a, xU, xU, xU, xU, xU]) (st' := [xI (v1.2 (a + 1) 10)]) (fun _ _ _ k => e_aload_n dX10_pieces_24 rfl (i := 0) (x := a) rfl (e_getr dX10_pieces_25 flX10_7 (kd10_0 h_a) rfl (rf10_0_0 h_a) (e_bipush dX10_pieces_28 rfl (k4 rfl) (e_iald dX10_pieces_30 (kd10_1 h_a) (by decide) (by decide) k)))) ?_
      refine ev_leti (fun x36 ex36 => ?_)
      refine ev_st (pc' := 32) (L' := [xR a, xI x36, xU, xU, xU, xU]) (st' := []) (fun _ _ _ k => e_istore_n dX10_pieces_31 rfl (i := 1) rfl (L' := [xR a, xI x36, xU, xU, xU, xU]) rfl k) ?_
      refine ev_st (pc' := 34) (L' := [xR a, xI x36, xI 0, xU, xU, xU]) (st' := []) (fun _ _ _ k => e_iconst dX10_pieces_32 (k4 rfl) (e_istore_n dX10_pieces_33 rfl (i := 2) rfl (L' := [xR a, xI x36, xI 0, xU, xU, xU]) rfl k)) ?_
      refine lc_X10_pieces_34_1 h_a x36 (fun z42 R43 => ?_) 6000 0 v1.2
      refine ev_st (pc' := 68) (L' := [xR a, xU, xI 0, xI 0, xU, xU]) (st' := []) (fun _ _ _ k => e_iconst dX10_pieces_64 (k4 rfl) (e_istore_n dX10_pieces_65 rfl (i := 2) rfl (L' := [xR a, xU, xI 0, xU, xU, xU]) rfl (e_iconst dX10_pieces_66 (k4 rfl) (e_istore_n dX10_pieces_67 rfl (i := 3) rfl (L' := [xR a, xU, xI 0, xI 0, xU, xU]) rfl k)))) ?_
      refine lc_X10_pieces_68 h_a (fun z44 R45 => ?_) 6000 0 R43
      refine ev_st (pc' := 153) (L' := [xR a, xU, xI 0, xI 0, xI 0, xU]) (st' := []) (fun _ _ _ k => e_iconst dX10_pieces_148 (k4 rfl) (e_istore_n dX10_pieces_149 rfl (i := 3) rfl (L' := [xR a, xU, xI 0, xI 0, xU, xU]) rfl (e_iconst dX10_pieces_150 (k4 rfl) (e_istore dX10_pieces_151 (i := 4) rfl (L' := [xR a, xU, xI 0, xI 0, xI 0, xU]) rfl k)))) ?_
      refine lc_X10_pieces_153 h_a R45 (fun z46 z47 => ?_) 6000 0 0
      refine ev_st (pc' := 182) (L' := [xU, xU, xI 0, xI z46, xU, xU]) (st' := [xI z46, xI 0]) (fun _ _ _ k => e_iload_n dX10_pieces_180 rfl (i := 2) (x := 0) rfl (e_iload_n dX10_pieces_181 rfl (i := 3) (x := z46) rfl k)) ?_
      refine ev_callS (As := [xI z46]) (st := [xI 0]) (fun v48 => [xI v48, xI 0]) dX10_pieces_182 mlX10_170 rfl rfl rfl rfl rfl rfl (c_X10_ones (d := d + 3) z46) (fun _ => trivial) (fun _ => rfl) (fun v48 => ?_)
      exact ev_ret (e_iadd dX10_pieces_185 (e_iret dX10_pieces_186))
  · exact ev_ret (e_bipush dX10_pieces_7 rfl (k4 rfl) (e_iret dX10_pieces_9))
def lp_X10_reading_26 (a : Nat) (p1 : Int) (R : xN) : Nat → Int → (Int → Option (Int × xN)) → Option (Int × xN)
  | 0, _, _ => none
  | n + 1, y2, X =>
    if (w4 (2 * (R a 9))) ≤ y2 then
    X y2
    else
    (f_X10_isHidden a y2 R).bind (fun v6 =>
    if v6 = true then
    X y2
    else
    (f_X10_isItsOwn a y2 R).bind (fun v8 =>
    if v8 = true then
    xlet (w4 (y2 + 1)) (fun x10 =>
    lp_X10_reading_26 a p1 R n x10 X)
    else
    X y2))
def f_X10_reading (a : Nat) (i0 : Int) (R : xN) : Option (Int × xN) :=
  (f_X10_isBooklet a R).bind (fun v1 =>
  if v1.1 = true then
  (f_X10_in i0 0 2 v1.2).bind (fun v3 =>
  if v3 = true then
  lp_X10_reading_26 a i0 v1.2 6000 0 (fun z11 =>
  if i0 = 0 then
  some (z11, v1.2)
  else
  if z11 = (w4 (2 * (v1.2 a 9))) then
  some ((-9), v1.2)
  else
  if i0 = 1 then
  some (z11, v1.2)
  else
  (f_X10_isHidden a z11 v1.2).bind (fun v15 =>
  if v15 = true then
  some (1, v1.2)
  else
  (f_X10_printedOn a z11 v1.2).bind (fun v17 =>
  if 0 ≤ v17 then
  (f_X10_printedOn a z11 v1.2).bind (fun v19 =>
  xlet (if v19 = z11 then 4 else 3) (fun t20 =>
  some (t20, v1.2)))
  else
  some (2, v1.2))))
  else
  some ((-1), v1.2))
  else
  some ((-2), v1.2))
set_option maxRecDepth 20000 in
set_option maxHeartbeats 4000000 in
theorem lc_X10_reading_26 {l : Launch} {g : xG} {d : Nat} {A : xA} {a : Nat} (h_a : sh 10 A a) (p1 : Int) (R : xN) {X : Int → Option (Int × xN)} (hX : ∀ (y2 : Int), Ev l g (d + 4) mX10_reading 58 [xR a, xI p1, xI y2] [] A R (fun v : Int × xN => some (xI v.1)) (fun v => v.2) (X y2)) (n : Nat) (y2 : Int) : Ev l g (d + 4) mX10_reading 26 [xR a, xI p1, xI y2] [] A R (fun v : Int × xN => some (xI v.1)) (fun v => v.2) (lp_X10_reading_26 a p1 R n y2 X) := by
  induction n generalizing y2 with
  | zero => exact ev_none
  | succ n ih =>
    rw [lp_X10_reading_26]
    refine ev_st (pc' := 33) (L' := [xR a, xI p1, xI y2]) (st' := [xI (w4 (2 * (R a 9))), xI y2]) (fun _ _ _ k => e_iload_n dX10_reading_26 rfl (i := 2) (x := y2) rfl (e_iconst dX10_reading_27 (k4 rfl) (e_aload_n dX10_reading_28 rfl (i := 0) (x := a) rfl (e_geti dX10_reading_29 flX10_78 (kd10_0 h_a) (Or.inl rfl) (e_imul dX10_reading_32 k))))) ?_
    refine ev_br2 (P := (w4 (2 * (R a 9))) ≤ y2) (pct := 58) (pcf := 36) (st' := []) (fun _ _ _ kt kf => e_cge dX10_reading_33 (tgt := 58) rfl kt kf) (fun h5 => ?_) (fun h5 => ?_)
    · exact hX y2
    · refine ev_st (pc' := 38) (L' := [xR a, xI p1, xI y2]) (st' := [xI y2, xR a]) (fun _ _ _ k => e_aload_n dX10_reading_36 rfl (i := 0) (x := a) rfl (e_iload_n dX10_reading_37 rfl (i := 2) (x := y2) rfl k)) ?_
      refine ev_callV (As := [xI y2]) (st := []) (fun v6 => [xI (xz v6)]) dX10_reading_38 mlX10_320 (kd10_0 h_a) rfl rfl rfl rfl rfl rfl (c_X10_isHidden (d := d + 1) h_a y2) (fun _ => xz01 _) (fun _ => rfl) (fun v6 => ?_)
      refine ev_br2 (P := v6 = true) (pct := 58) (pcf := 44) (st' := []) (fun _ _ _ kt kf => e_ifnez dX10_reading_41 (tgt := 58) rfl kt kf) (fun h7 => ?_) (fun h7 => ?_)
      · exact hX y2
      · refine ev_st (pc' := 46) (L' := [xR a, xI p1, xI y2]) (st' := [xI y2, xR a]) (fun _ _ _ k => e_aload_n dX10_reading_44 rfl (i := 0) (x := a) rfl (e_iload_n dX10_reading_45 rfl (i := 2) (x := y2) rfl k)) ?_
        refine ev_callV (As := [xI y2]) (st := []) (fun v8 => [xI (xz v8)]) dX10_reading_46 mlX10_323 (kd10_0 h_a) rfl rfl rfl rfl rfl rfl (c_X10_isItsOwn (d := d + 1) h_a y2) (fun _ => xz01 _) (fun _ => rfl) (fun v8 => ?_)
        refine ev_br2 (P := v8 = true) (pct := 52) (pcf := 58) (st' := []) (fun _ _ _ kt kf => e_ifeqz dX10_reading_49 (tgt := 58) rfl kt kf) (fun h9 => ?_) (fun h9 => ?_)
        · refine ev_letx (fun x10 ex10 => ?_)
          refine ev_st (pc' := 55) (L' := [xR a, xI p1, xI x10]) (st' := []) (fun _ _ _ k => e_iinc dX10_reading_52 (i := 2) rfl (x := y2) rfl (y := x10) ex10 (L' := [xR a, xI p1, xI x10]) rfl k) ?_
          refine ev_st (pc' := 26) (L' := [xR a, xI p1, xI x10]) (st' := []) (fun _ _ _ k => e_goto dX10_reading_55 (tgt := 26) rfl k) ?_
          exact ih x10
        · exact hX y2
set_option maxRecDepth 20000 in
set_option maxHeartbeats 4000000 in
theorem c_X10_reading {l : Launch} {g : xG} {d : Nat} {A : xA} {R : xN} {a : Nat} (h_a : sh 10 A a) (i0 : Int) : Ev l g (d + 4) mX10_reading 0 [xR a, xI i0, xU] [] A R (fun v : Int × xN => some (xI v.1)) (fun v => v.2) (f_X10_reading a i0 R) := by
  rw [f_X10_reading]
  refine ev_st (pc' := 1) (L' := [xR a, xI i0, xU]) (st' := [xR a]) (fun _ _ _ k => e_aload_n dX10_reading_0 rfl (i := 0) (x := a) rfl k) ?_
  refine ev_callV (As := []) (st := []) (fun v1 => [xI (xz v1.1)]) dX10_reading_1 mlX10_162 (kd10_0 h_a) rfl rfl rfl rfl rfl rfl (c_X10_isBooklet (d := d) h_a) (fun _ => xz01 _) (fun _ => rfl) (fun v1 => ?_)
  refine ev_br2 (P := v1.1 = true) (pct := 10) (pcf := 7) (st' := []) (fun _ _ _ kt kf => e_ifnez dX10_reading_4 (tgt := 10) rfl kt kf) (fun h2 => ?_) (fun h2 => ?_)
  · refine ev_st (pc' := 16) (L' := [xR a, xI i0, xU]) (st' := [xL 2, xL 0, xL i0]) (fun _ _ _ k => e_iload_n dX10_reading_10 rfl (i := 1) (x := i0) rfl (e_i2l dX10_reading_11 (e_lconst dX10_reading_12 (i := 0) rfl (k8 rfl) (e_ldc2 dX10_reading_13 ckX10_329 (k8 rfl) k)))) ?_
    refine ev_callS (As := [xL i0, xL 0, xL 2]) (st := []) (fun v3 => [xI (xz v3)]) dX10_reading_16 mlX10_101 rfl rfl rfl rfl rfl rfl (c_X10_in (d := d + 3) i0 0 2) (fun _ => xz01 _) (fun _ => rfl) (fun v3 => ?_)
    refine ev_br2 (P := v3 = true) (pct := 24) (pcf := 22) (st' := []) (fun _ _ _ kt kf => e_ifnez dX10_reading_19 (tgt := 24) rfl kt kf) (fun h4 => ?_) (fun h4 => ?_)
    · refine ev_st (pc' := 26) (L' := [xR a, xI i0, xI 0]) (st' := []) (fun _ _ _ k => e_iconst dX10_reading_24 (k4 rfl) (e_istore_n dX10_reading_25 rfl (i := 2) rfl (L' := [xR a, xI i0, xI 0]) rfl k)) ?_
      refine lc_X10_reading_26 h_a i0 v1.2 (fun z11 => ?_) 6000 0
      refine ev_st (pc' := 59) (L' := [xR a, xI i0, xI z11]) (st' := [xI i0]) (fun _ _ _ k => e_iload_n dX10_reading_58 rfl (i := 1) (x := i0) rfl k) ?_
      refine ev_br2 (P := i0 = 0) (pct := 62) (pcf := 64) (st' := []) (fun _ _ _ kt kf => e_ifne dX10_reading_59 (tgt := 64) rfl kt kf) (fun h12 => ?_) (fun h12 => ?_)
      · exact ev_ret (e_iload_n dX10_reading_62 rfl (i := 2) (x := z11) rfl (e_iret dX10_reading_63))
      · refine ev_st (pc' := 71) (L' := [xR a, xI i0, xI z11]) (st' := [xI (w4 (2 * (v1.2 a 9))), xI z11]) (fun _ _ _ k => e_iload_n dX10_reading_64 rfl (i := 2) (x := z11) rfl (e_iconst dX10_reading_65 (k4 rfl) (e_aload_n dX10_reading_66 rfl (i := 0) (x := a) rfl (e_geti dX10_reading_67 flX10_78 (kd10_0 h_a) (Or.inl rfl) (e_imul dX10_reading_70 k))))) ?_
        refine ev_br2 (P := z11 = (w4 (2 * (v1.2 a 9)))) (pct := 74) (pcf := 77) (st' := []) (fun _ _ _ kt kf => e_cne dX10_reading_71 (tgt := 77) rfl kt kf) (fun h13 => ?_) (fun h13 => ?_)
        · exact ev_ret (e_bipush dX10_reading_74 rfl (k4 rfl) (e_iret dX10_reading_76))
        · refine ev_st (pc' := 79) (L' := [xR a, xI i0, xI z11]) (st' := [xI 1, xI i0]) (fun _ _ _ k => e_iload_n dX10_reading_77 rfl (i := 1) (x := i0) rfl (e_iconst dX10_reading_78 (k4 rfl) k)) ?_
          refine ev_br2 (P := i0 = 1) (pct := 82) (pcf := 86) (st' := []) (fun _ _ _ kt kf => e_cne dX10_reading_79 (tgt := 86) rfl kt kf) (fun h14 => ?_) (fun h14 => ?_)
          · exact ev_ret (e_iload_n dX10_reading_82 rfl (i := 2) (x := z11) rfl (e_goto dX10_reading_83 (tgt := 124) rfl (e_iret dX10_reading_124)))
          · refine ev_st (pc' := 88) (L' := [xR a, xI i0, xI z11]) (st' := [xI z11, xR a]) (fun _ _ _ k => e_aload_n dX10_reading_86 rfl (i := 0) (x := a) rfl (e_iload_n dX10_reading_87 rfl (i := 2) (x := z11) rfl k)) ?_
            refine ev_callV (As := [xI z11]) (st := []) (fun v15 => [xI (xz v15)]) dX10_reading_88 mlX10_320 (kd10_0 h_a) rfl rfl rfl rfl rfl rfl (c_X10_isHidden (d := d + 1) h_a z11) (fun _ => xz01 _) (fun _ => rfl) (fun v15 => ?_)
            refine ev_br2 (P := v15 = true) (pct := 94) (pcf := 98) (st' := []) (fun _ _ _ kt kf => e_ifeqz dX10_reading_91 (tgt := 98) rfl kt kf) (fun h16 => ?_) (fun h16 => ?_)
            · exact ev_ret (e_iconst dX10_reading_94 (k4 rfl) (e_goto dX10_reading_95 (tgt := 124) rfl (e_iret dX10_reading_124)))
            · refine ev_st (pc' := 100) (L' := [xR a, xI i0, xI z11]) (st' := [xI z11, xR a]) (fun _ _ _ k => e_aload_n dX10_reading_98 rfl (i := 0) (x := a) rfl (e_iload_n dX10_reading_99 rfl (i := 2) (x := z11) rfl k)) ?_
              refine ev_callV (As := [xI z11]) (st := []) (fun v17 => [xI v17]) dX10_reading_100 mlX10_130 (kd10_0 h_a) rfl rfl rfl rfl rfl rfl (c_X10_printedOn (d := d + 2) h_a z11) (fun _ => trivial) (fun _ => rfl) (fun v17 => ?_)
              refine ev_br2 (P := 0 ≤ v17) (pct := 110) (pcf := 106) (st' := []) (fun _ _ _ kt kf => e_ifge dX10_reading_103 (tgt := 110) rfl kt kf) (fun h18 => ?_) (fun h18 => ?_)
              · refine ev_st (pc' := 112) (L' := [xR a, xI i0, xI z11]) (st' := [xI z11, xR a]) (fun _ _ _ k => e_aload_n dX10_reading_110 rfl (i := 0) (x := a) rfl (e_iload_n dX10_reading_111 rfl (i := 2) (x := z11) rfl k)) ?_
                refine ev_callV (As := [xI z11]) (st := []) (fun v19 => [xI v19]) dX10_reading_112 mlX10_130 (kd10_0 h_a) rfl rfl rfl rfl rfl rfl (c_X10_printedOn (d := d + 2) h_a z11) (fun _ => trivial) (fun _ => rfl) (fun v19 => ?_)
                refine ev_st (pc' := 116) (L' := [xR a, xI i0, xI z11]) (st' := [xI z11, xI v19]) (fun _ _ _ k => e_iload_n dX10_reading_115 rfl (i := 2) (x := z11) rfl k) ?_
                refine ev_tern (P := v19 = z11) (a := 4) (b := 3) (pct := 123) (pcf := 119) (J := 124) (st' := []) (fun _ _ _ kt kf => e_ceq dX10_reading_116 (tgt := 123) rfl kt kf) (fun _ _ _ k => e_iconst dX10_reading_123 (k4 rfl) k) (fun _ _ _ k => e_iconst dX10_reading_119 (k4 rfl) (e_goto dX10_reading_120 (tgt := 124) rfl k)) (fun t20 et20 => ?_)
                exact ev_ret (e_iret dX10_reading_124)
              · exact ev_ret (e_iconst dX10_reading_106 (k4 rfl) (e_goto dX10_reading_107 (tgt := 124) rfl (e_iret dX10_reading_124)))
    · exact ev_ret (e_iconst dX10_reading_22 (k4 rfl) (e_iret dX10_reading_23))
  · exact ev_ret (e_bipush dX10_reading_7 rfl (k4 rfl) (e_iret dX10_reading_9))
def lp_X10_pageOf_26 (a : Nat) (p1 : Int) (R : xN) : Nat → Int → (Int → Option (Int × xN)) → Option (Int × xN)
  | 0, _, _ => none
  | n + 1, y2, X =>
    if (w4 (2 * (R a 9))) ≤ y2 then
    X y2
    else
    (f_X10_printedOn a y2 R).bind (fun v6 =>
    if v6 = p1 then
    some (y2, R)
    else
    xlet (w4 (y2 + 1)) (fun x8 =>
    lp_X10_pageOf_26 a p1 R n x8 X))
def f_X10_pageOf (a : Nat) (i0 : Int) (R : xN) : Option (Int × xN) :=
  (f_X10_isBooklet a R).bind (fun v1 =>
  if v1.1 = true then
  (f_X10_in i0 0 31 v1.2).bind (fun v3 =>
  if v3 = true then
  lp_X10_pageOf_26 a i0 v1.2 6000 0 (fun z9 =>
  some ((-9), v1.2))
  else
  some ((-1), v1.2))
  else
  some ((-2), v1.2))
set_option maxRecDepth 20000 in
set_option maxHeartbeats 4000000 in
theorem lc_X10_pageOf_26 {l : Launch} {g : xG} {d : Nat} {A : xA} {a : Nat} (h_a : sh 10 A a) (p1 : Int) (R : xN) {X : Int → Option (Int × xN)} (hX : ∀ (y2 : Int), Ev l g (d + 4) mX10_pageOf 53 [xU, xU, xU] [] A R (fun v : Int × xN => some (xI v.1)) (fun v => v.2) (X y2)) (n : Nat) (y2 : Int) : Ev l g (d + 4) mX10_pageOf 26 [xR a, xI p1, xI y2] [] A R (fun v : Int × xN => some (xI v.1)) (fun v => v.2) (lp_X10_pageOf_26 a p1 R n y2 X) := by
  induction n generalizing y2 with
  | zero => exact ev_none
  | succ n ih =>
    rw [lp_X10_pageOf_26]
    refine ev_st (pc' := 33) (L' := [xR a, xI p1, xI y2]) (st' := [xI (w4 (2 * (R a 9))), xI y2]) (fun _ _ _ k => e_iload_n dX10_pageOf_26 rfl (i := 2) (x := y2) rfl (e_iconst dX10_pageOf_27 (k4 rfl) (e_aload_n dX10_pageOf_28 rfl (i := 0) (x := a) rfl (e_geti dX10_pageOf_29 flX10_78 (kd10_0 h_a) (Or.inl rfl) (e_imul dX10_pageOf_32 k))))) ?_
    refine ev_br2 (P := (w4 (2 * (R a 9))) ≤ y2) (pct := 53) (pcf := 36) (st' := []) (fun _ _ _ kt kf => e_cge dX10_pageOf_33 (tgt := 53) rfl kt kf) (fun h5 => ?_) (fun h5 => ?_)
    · refine ev_st (pc' := 53) (L' := [xU, xU, xU]) (st' := []) (fun _ _ _ k => e_fg [0, 1, 2] k) ?_
      exact hX y2
    · refine ev_st (pc' := 38) (L' := [xR a, xI p1, xI y2]) (st' := [xI y2, xR a]) (fun _ _ _ k => e_aload_n dX10_pageOf_36 rfl (i := 0) (x := a) rfl (e_iload_n dX10_pageOf_37 rfl (i := 2) (x := y2) rfl k)) ?_
      refine ev_callV (As := [xI y2]) (st := []) (fun v6 => [xI v6]) dX10_pageOf_38 mlX10_130 (kd10_0 h_a) rfl rfl rfl rfl rfl rfl (c_X10_printedOn (d := d + 2) h_a y2) (fun _ => trivial) (fun _ => rfl) (fun v6 => ?_)
      refine ev_st (pc' := 42) (L' := [xR a, xI p1, xI y2]) (st' := [xI p1, xI v6]) (fun _ _ _ k => e_iload_n dX10_pageOf_41 rfl (i := 1) (x := p1) rfl k) ?_
      refine ev_br2 (P := v6 = p1) (pct := 45) (pcf := 47) (st' := []) (fun _ _ _ kt kf => e_cne dX10_pageOf_42 (tgt := 47) rfl kt kf) (fun h7 => ?_) (fun h7 => ?_)
      · exact ev_ret (e_iload_n dX10_pageOf_45 rfl (i := 2) (x := y2) rfl (e_iret dX10_pageOf_46))
      · refine ev_letx (fun x8 ex8 => ?_)
        refine ev_st (pc' := 50) (L' := [xR a, xI p1, xI x8]) (st' := []) (fun _ _ _ k => e_iinc dX10_pageOf_47 (i := 2) rfl (x := y2) rfl (y := x8) ex8 (L' := [xR a, xI p1, xI x8]) rfl k) ?_
        refine ev_st (pc' := 26) (L' := [xR a, xI p1, xI x8]) (st' := []) (fun _ _ _ k => e_goto dX10_pageOf_50 (tgt := 26) rfl k) ?_
        exact ih x8
set_option maxRecDepth 20000 in
set_option maxHeartbeats 4000000 in
theorem c_X10_pageOf {l : Launch} {g : xG} {d : Nat} {A : xA} {R : xN} {a : Nat} (h_a : sh 10 A a) (i0 : Int) : Ev l g (d + 4) mX10_pageOf 0 [xR a, xI i0, xU] [] A R (fun v : Int × xN => some (xI v.1)) (fun v => v.2) (f_X10_pageOf a i0 R) := by
  rw [f_X10_pageOf]
  refine ev_st (pc' := 1) (L' := [xR a, xI i0, xU]) (st' := [xR a]) (fun _ _ _ k => e_aload_n dX10_pageOf_0 rfl (i := 0) (x := a) rfl k) ?_
  refine ev_callV (As := []) (st := []) (fun v1 => [xI (xz v1.1)]) dX10_pageOf_1 mlX10_162 (kd10_0 h_a) rfl rfl rfl rfl rfl rfl (c_X10_isBooklet (d := d) h_a) (fun _ => xz01 _) (fun _ => rfl) (fun v1 => ?_)
  refine ev_br2 (P := v1.1 = true) (pct := 10) (pcf := 7) (st' := []) (fun _ _ _ kt kf => e_ifnez dX10_pageOf_4 (tgt := 10) rfl kt kf) (fun h2 => ?_) (fun h2 => ?_)
  · refine ev_st (pc' := 16) (L' := [xR a, xI i0, xU]) (st' := [xL 31, xL 0, xL i0]) (fun _ _ _ k => e_iload_n dX10_pageOf_10 rfl (i := 1) (x := i0) rfl (e_i2l dX10_pageOf_11 (e_lconst dX10_pageOf_12 (i := 0) rfl (k8 rfl) (e_ldc2 dX10_pageOf_13 ckX10_151 (k8 rfl) k)))) ?_
    refine ev_callS (As := [xL i0, xL 0, xL 31]) (st := []) (fun v3 => [xI (xz v3)]) dX10_pageOf_16 mlX10_101 rfl rfl rfl rfl rfl rfl (c_X10_in (d := d + 3) i0 0 31) (fun _ => xz01 _) (fun _ => rfl) (fun v3 => ?_)
    refine ev_br2 (P := v3 = true) (pct := 24) (pcf := 22) (st' := []) (fun _ _ _ kt kf => e_ifnez dX10_pageOf_19 (tgt := 24) rfl kt kf) (fun h4 => ?_) (fun h4 => ?_)
    · refine ev_st (pc' := 26) (L' := [xR a, xI i0, xI 0]) (st' := []) (fun _ _ _ k => e_iconst dX10_pageOf_24 (k4 rfl) (e_istore_n dX10_pageOf_25 rfl (i := 2) rfl (L' := [xR a, xI i0, xI 0]) rfl k)) ?_
      refine lc_X10_pageOf_26 h_a i0 v1.2 (fun z9 => ?_) 6000 0
      exact ev_ret (e_bipush dX10_pageOf_53 rfl (k4 rfl) (e_iret dX10_pageOf_55))
    · exact ev_ret (e_iconst dX10_pageOf_22 (k4 rfl) (e_iret dX10_pageOf_23))
  · exact ev_ret (e_bipush dX10_pageOf_7 rfl (k4 rfl) (e_iret dX10_pageOf_9))
def f_X10_note (a : Nat) (i0 : Int) (i1 : Int) (R : xN) : Option (Int × xN) :=
  (f_X10_in i0 0 (w4 ((R (a + 1) 37) - 1)) R).bind (fun v1 =>
  if v1 = true then
  (f_X10_in i1 0 6 R).bind (fun v3 =>
  if v3 = true then
  xlet (w4 (38 + (w4 (4 * i0)))) (fun x5 =>
  if 4 ≤ i1 then
  (f_X10_isBooklet a R).bind (fun v7 =>
  if v7.1 = true then
  (f_X10_layNotes a v7.2).bind (fun v9 =>
  if 0 ≤ i0 ∧ i0 < 12 then
  xlet (v9 (a + 16) (i0).toNat) (fun x11 =>
  if 0 ≤ x11 then
  if i1 = 4 then
  if (v9 (a + 1) 11) ≠ 0 then
  if 0 ≤ (w4 (Int.tdiv x11 (v9 (a + 1) 11))) ∧ (w4 (Int.tdiv x11 (v9 (a + 1) 11))) < 32 then
  some ((v9 (a + 15) ((w4 (Int.tdiv x11 (v9 (a + 1) 11)))).toNat), v9)
  else none
  else none
  else
  if i1 = 5 then
  if (v9 (a + 1) 11) ≠ 0 then
  some ((Int.tmod x11 (v9 (a + 1) 11)), v9)
  else none
  else
  if 0 ≤ (w4 (x5 + 2)) ∧ (w4 (x5 + 2)) < 464 then
  if (v9 (a + 1) 11) ≠ 0 then
  if 0 ≤ (w4 (Int.tdiv (w4 ((w4 (x11 + (v9 (a + 1) ((w4 (x5 + 2))).toNat))) - 1)) (v9 (a + 1) 11))) ∧ (w4 (Int.tdiv (w4 ((w4 (x11 + (v9 (a + 1) ((w4 (x5 + 2))).toNat))) - 1)) (v9 (a + 1) 11))) < 32 then
  some ((v9 (a + 15) ((w4 (Int.tdiv (w4 ((w4 (x11 + (v9 (a + 1) ((w4 (x5 + 2))).toNat))) - 1)) (v9 (a + 1) 11)))).toNat), v9)
  else none
  else none
  else none
  else
  some ((-9), v9))
  else none)
  else
  some ((-9), v7.2))
  else
  if 0 ≤ (w4 (x5 + i1)) ∧ (w4 (x5 + i1)) < 464 then
  some ((R (a + 1) ((w4 (x5 + i1))).toNat), R)
  else none)
  else
  some ((-1), R))
  else
  some ((-1), R))
set_option maxRecDepth 20000 in
set_option maxHeartbeats 4000000 in
theorem c_X10_note {l : Launch} {g : xG} {d : Nat} {A : xA} {R : xN} {a : Nat} (h_a : sh 10 A a) (i0 : Int) (i1 : Int) : Ev l g (d + 4) mX10_note 0 [xR a, xI i0, xI i1, xU, xU] [] A R (fun v : Int × xN => some (xI v.1)) (fun v => v.2) (f_X10_note a i0 i1 R) := by
  rw [f_X10_note]
  refine ev_st (pc' := 13) (L' := [xR a, xI i0, xI i1, xU, xU]) (st' := [xL (w4 ((R (a + 1) 37) - 1)), xL 0, xL i0]) (fun _ _ _ k => e_iload_n dX10_note_0 rfl (i := 1) (x := i0) rfl (e_i2l dX10_note_1 (e_lconst dX10_note_2 (i := 0) rfl (k8 rfl) (e_aload_n dX10_note_3 rfl (i := 0) (x := a) rfl (e_getr dX10_note_4 flX10_7 (kd10_0 h_a) rfl (rf10_0_0 h_a) (e_bipush dX10_note_7 rfl (k4 rfl) (e_iald dX10_note_9 (kd10_1 h_a) (by decide) (by decide) (e_iconst dX10_note_10 (k4 rfl) (e_isub dX10_note_11 (e_i2l dX10_note_12 k)))))))))) ?_
  refine ev_callS (As := [xL i0, xL 0, xL (w4 ((R (a + 1) 37) - 1))]) (st := []) (fun v1 => [xI (xz v1)]) dX10_note_13 mlX10_101 rfl rfl rfl rfl rfl rfl (c_X10_in (d := d + 3) i0 0 (w4 ((R (a + 1) 37) - 1))) (fun _ => xz01 _) (fun _ => rfl) (fun v1 => ?_)
  refine ev_br2 (P := v1 = true) (pct := 19) (pcf := 31) (st' := []) (fun _ _ _ kt kf => e_ifeqz dX10_note_16 (tgt := 31) rfl kt kf) (fun h2 => ?_) (fun h2 => ?_)
  · refine ev_st (pc' := 25) (L' := [xR a, xI i0, xI i1, xU, xU]) (st' := [xL 6, xL 0, xL i1]) (fun _ _ _ k => e_iload_n dX10_note_19 rfl (i := 2) (x := i1) rfl (e_i2l dX10_note_20 (e_lconst dX10_note_21 (i := 0) rfl (k8 rfl) (e_ldc2 dX10_note_22 ckX10_350 (k8 rfl) k)))) ?_
    refine ev_callS (As := [xL i1, xL 0, xL 6]) (st := []) (fun v3 => [xI (xz v3)]) dX10_note_25 mlX10_101 rfl rfl rfl rfl rfl rfl (c_X10_in (d := d + 3) i1 0 6) (fun _ => xz01 _) (fun _ => rfl) (fun v3 => ?_)
    refine ev_br2 (P := v3 = true) (pct := 33) (pcf := 31) (st' := []) (fun _ _ _ kt kf => e_ifnez dX10_note_28 (tgt := 33) rfl kt kf) (fun h4 => ?_) (fun h4 => ?_)
    · refine ev_st (pc' := 39) (L' := [xR a, xI i0, xI i1, xU, xU]) (st' := [xI (w4 (38 + (w4 (4 * i0))))]) (fun _ _ _ k => e_bipush dX10_note_33 rfl (k4 rfl) (e_iconst dX10_note_35 (k4 rfl) (e_iload_n dX10_note_36 rfl (i := 1) (x := i0) rfl (e_imul dX10_note_37 (e_iadd dX10_note_38 k))))) ?_
      refine ev_leti (fun x5 ex5 => ?_)
      refine ev_st (pc' := 40) (L' := [xR a, xI i0, xI i1, xI x5, xU]) (st' := []) (fun _ _ _ k => e_istore_n dX10_note_39 rfl (i := 3) rfl (L' := [xR a, xI i0, xI i1, xI x5, xU]) rfl k) ?_
      refine ev_st (pc' := 42) (L' := [xR a, xI i0, xI i1, xI x5, xU]) (st' := [xI 4, xI i1]) (fun _ _ _ k => e_iload_n dX10_note_40 rfl (i := 2) (x := i1) rfl (e_iconst dX10_note_41 (k4 rfl) k)) ?_
      refine ev_br2 (P := 4 ≤ i1) (pct := 54) (pcf := 45) (st' := []) (fun _ _ _ kt kf => e_cge dX10_note_42 (tgt := 54) rfl kt kf) (fun h6 => ?_) (fun h6 => ?_)
      · refine ev_st (pc' := 55) (L' := [xR a, xI i0, xI i1, xI x5, xU]) (st' := [xR a]) (fun _ _ _ k => e_aload_n dX10_note_54 rfl (i := 0) (x := a) rfl k) ?_
        refine ev_callV (As := []) (st := []) (fun v7 => [xI (xz v7.1)]) dX10_note_55 mlX10_162 (kd10_0 h_a) rfl rfl rfl rfl rfl rfl (c_X10_isBooklet (d := d) h_a) (fun _ => xz01 _) (fun _ => rfl) (fun v7 => ?_)
        refine ev_br2 (P := v7.1 = true) (pct := 64) (pcf := 61) (st' := []) (fun _ _ _ kt kf => e_ifnez dX10_note_58 (tgt := 64) rfl kt kf) (fun h8 => ?_) (fun h8 => ?_)
        · refine ev_st (pc' := 65) (L' := [xR a, xI i0, xI i1, xI x5, xU]) (st' := [xR a]) (fun _ _ _ k => e_aload_n dX10_note_64 rfl (i := 0) (x := a) rfl k) ?_
          refine ev_callV (As := []) (st := []) (fun v9 => []) dX10_note_65 mlX10_347 (kd10_0 h_a) rfl rfl rfl rfl rfl rfl (c_X10_layNotes (d := d) h_a) (fun _ => trivial) (fun _ => rfl) (fun v9 => ?_)
          refine ev_st (pc' := 73) (L' := [xR a, xI i0, xI i1, xI x5, xU]) (st' := [xI i0, xR (a + 16)]) (fun _ _ _ k => e_aload_n dX10_note_68 rfl (i := 0) (x := a) rfl (e_getr dX10_note_69 flX10_55 (kd10_0 h_a) rfl (rf10_0_30 h_a) (e_iload_n dX10_note_72 rfl (i := 1) (x := i0) rfl k))) ?_
          refine ev_chk (fun h10 => ?_)
          refine ev_st (pc' := 74) (L' := [xR a, xI i0, xI i1, xI x5, xU]) (st' := [xI (v9 (a + 16) (i0).toNat)]) (fun _ _ _ k => e_iald dX10_note_73 (kd10_16 h_a) h10.1 h10.2 k) ?_
          refine ev_leti (fun x11 ex11 => ?_)
          refine ev_st (pc' := 76) (L' := [xR a, xI i0, xI i1, xI x5, xI x11]) (st' := []) (fun _ _ _ k => e_istore dX10_note_74 (i := 4) rfl (L' := [xR a, xI i0, xI i1, xI x5, xI x11]) rfl k) ?_
          refine ev_st (pc' := 78) (L' := [xR a, xI i0, xI i1, xI x5, xI x11]) (st' := [xI x11]) (fun _ _ _ k => e_iload dX10_note_76 (i := 4) (x := x11) rfl k) ?_
          refine ev_br2 (P := 0 ≤ x11) (pct := 84) (pcf := 81) (st' := []) (fun _ _ _ kt kf => e_ifge dX10_note_78 (tgt := 84) rfl kt kf) (fun h12 => ?_) (fun h12 => ?_)
          · refine ev_st (pc' := 86) (L' := [xR a, xI i0, xI i1, xI x5, xI x11]) (st' := [xI 4, xI i1]) (fun _ _ _ k => e_iload_n dX10_note_84 rfl (i := 2) (x := i1) rfl (e_iconst dX10_note_85 (k4 rfl) k)) ?_
            refine ev_br2 (P := i1 = 4) (pct := 89) (pcf := 107) (st' := []) (fun _ _ _ kt kf => e_cne dX10_note_86 (tgt := 107) rfl kt kf) (fun h13 => ?_) (fun h13 => ?_)
            · refine ev_st (pc' := 102) (L' := [xR a, xI i0, xI i1, xI x5, xI x11]) (st' := [xI (v9 (a + 1) 11), xI x11, xR (a + 15)]) (fun _ _ _ k => e_aload_n dX10_note_89 rfl (i := 0) (x := a) rfl (e_getr dX10_note_90 flX10_52 (kd10_0 h_a) rfl (rf10_0_29 h_a) (e_iload dX10_note_93 (i := 4) (x := x11) rfl (e_aload_n dX10_note_95 rfl (i := 0) (x := a) rfl (e_getr dX10_note_96 flX10_7 (kd10_0 h_a) rfl (rf10_0_0 h_a) (e_bipush dX10_note_99 rfl (k4 rfl) (e_iald dX10_note_101 (kd10_1 h_a) (by decide) (by decide) k))))))) ?_
              refine ev_chk (fun h14 => ?_)
              refine ev_st (pc' := 103) (L' := [xR a, xI i0, xI i1, xI x5, xI x11]) (st' := [xI (w4 (Int.tdiv x11 (v9 (a + 1) 11))), xR (a + 15)]) (fun _ _ _ k => e_idiv dX10_note_102 h14 k) ?_
              refine ev_chk (fun h15 => ?_)
              refine ev_st (pc' := 104) (L' := [xR a, xI i0, xI i1, xI x5, xI x11]) (st' := [xI (v9 (a + 15) ((w4 (Int.tdiv x11 (v9 (a + 1) 11)))).toNat)]) (fun _ _ _ k => e_iald dX10_note_103 (kd10_15 h_a) h15.1 h15.2 k) ?_
              exact ev_ret (e_goto dX10_note_104 (tgt := 151) rfl (e_iret dX10_note_151))
            · refine ev_st (pc' := 109) (L' := [xR a, xI i0, xI i1, xI x5, xI x11]) (st' := [xI 5, xI i1]) (fun _ _ _ k => e_iload_n dX10_note_107 rfl (i := 2) (x := i1) rfl (e_iconst dX10_note_108 (k4 rfl) k)) ?_
              refine ev_br2 (P := i1 = 5) (pct := 112) (pcf := 125) (st' := []) (fun _ _ _ kt kf => e_cne dX10_note_109 (tgt := 125) rfl kt kf) (fun h16 => ?_) (fun h16 => ?_)
              · refine ev_st (pc' := 121) (L' := [xR a, xI i0, xI i1, xI x5, xI x11]) (st' := [xI (v9 (a + 1) 11), xI x11]) (fun _ _ _ k => e_iload dX10_note_112 (i := 4) (x := x11) rfl (e_aload_n dX10_note_114 rfl (i := 0) (x := a) rfl (e_getr dX10_note_115 flX10_7 (kd10_0 h_a) rfl (rf10_0_0 h_a) (e_bipush dX10_note_118 rfl (k4 rfl) (e_iald dX10_note_120 (kd10_1 h_a) (by decide) (by decide) k))))) ?_
                refine ev_chk (fun h17 => ?_)
                refine ev_st (pc' := 122) (L' := [xR a, xI i0, xI i1, xI x5, xI x11]) (st' := [xI (Int.tmod x11 (v9 (a + 1) 11))]) (fun _ _ _ k => e_irem dX10_note_121 h17 k) ?_
                exact ev_ret (e_goto dX10_note_122 (tgt := 151) rfl (e_iret dX10_note_151))
              · refine ev_st (pc' := 138) (L' := [xR a, xI i0, xI i1, xI x5, xI x11]) (st' := [xI (w4 (x5 + 2)), xR (a + 1), xI x11, xR (a + 15)]) (fun _ _ _ k => e_aload_n dX10_note_125 rfl (i := 0) (x := a) rfl (e_getr dX10_note_126 flX10_52 (kd10_0 h_a) rfl (rf10_0_29 h_a) (e_iload dX10_note_129 (i := 4) (x := x11) rfl (e_aload_n dX10_note_131 rfl (i := 0) (x := a) rfl (e_getr dX10_note_132 flX10_7 (kd10_0 h_a) rfl (rf10_0_0 h_a) (e_iload_n dX10_note_135 rfl (i := 3) (x := x5) rfl (e_iconst dX10_note_136 (k4 rfl) (e_iadd dX10_note_137 k)))))))) ?_
                refine ev_chk (fun h18 => ?_)
                refine ev_st (pc' := 139) (L' := [xR a, xI i0, xI i1, xI x5, xI x11]) (st' := [xI (v9 (a + 1) ((w4 (x5 + 2))).toNat), xI x11, xR (a + 15)]) (fun _ _ _ k => e_iald dX10_note_138 (kd10_1 h_a) h18.1 h18.2 k) ?_
                refine ev_st (pc' := 149) (L' := [xR a, xI i0, xI i1, xI x5, xI x11]) (st' := [xI (v9 (a + 1) 11), xI (w4 ((w4 (x11 + (v9 (a + 1) ((w4 (x5 + 2))).toNat))) - 1)), xR (a + 15)]) (fun _ _ _ k => e_iadd dX10_note_139 (e_iconst dX10_note_140 (k4 rfl) (e_isub dX10_note_141 (e_aload_n dX10_note_142 rfl (i := 0) (x := a) rfl (e_getr dX10_note_143 flX10_7 (kd10_0 h_a) rfl (rf10_0_0 h_a) (e_bipush dX10_note_146 rfl (k4 rfl) (e_iald dX10_note_148 (kd10_1 h_a) (by decide) (by decide) k))))))) ?_
                refine ev_chk (fun h19 => ?_)
                refine ev_st (pc' := 150) (L' := [xR a, xI i0, xI i1, xI x5, xI x11]) (st' := [xI (w4 (Int.tdiv (w4 ((w4 (x11 + (v9 (a + 1) ((w4 (x5 + 2))).toNat))) - 1)) (v9 (a + 1) 11))), xR (a + 15)]) (fun _ _ _ k => e_idiv dX10_note_149 h19 k) ?_
                refine ev_chk (fun h20 => ?_)
                refine ev_st (pc' := 151) (L' := [xR a, xI i0, xI i1, xI x5, xI x11]) (st' := [xI (v9 (a + 15) ((w4 (Int.tdiv (w4 ((w4 (x11 + (v9 (a + 1) ((w4 (x5 + 2))).toNat))) - 1)) (v9 (a + 1) 11)))).toNat)]) (fun _ _ _ k => e_iald dX10_note_150 (kd10_15 h_a) h20.1 h20.2 k) ?_
                exact ev_ret (e_iret dX10_note_151)
          · exact ev_ret (e_bipush dX10_note_81 rfl (k4 rfl) (e_iret dX10_note_83))
        · exact ev_ret (e_bipush dX10_note_61 rfl (k4 rfl) (e_iret dX10_note_63))
      · refine ev_st (pc' := 52) (L' := [xR a, xI i0, xI i1, xI x5, xU]) (st' := [xI (w4 (x5 + i1)), xR (a + 1)]) (fun _ _ _ k => e_aload_n dX10_note_45 rfl (i := 0) (x := a) rfl (e_getr dX10_note_46 flX10_7 (kd10_0 h_a) rfl (rf10_0_0 h_a) (e_iload_n dX10_note_49 rfl (i := 3) (x := x5) rfl (e_iload_n dX10_note_50 rfl (i := 2) (x := i1) rfl (e_iadd dX10_note_51 k))))) ?_
        refine ev_chk (fun h21 => ?_)
        refine ev_st (pc' := 53) (L' := [xR a, xI i0, xI i1, xI x5, xU]) (st' := [xI (R (a + 1) ((w4 (x5 + i1))).toNat)]) (fun _ _ _ k => e_iald dX10_note_52 (kd10_1 h_a) h21.1 h21.2 k) ?_
        exact ev_ret (e_iret dX10_note_53)
    · exact ev_ret (e_iconst dX10_note_31 (k4 rfl) (e_iret dX10_note_32))
  · exact ev_ret (e_iconst dX10_note_31 (k4 rfl) (e_iret dX10_note_32))
