def f_X0_foldBack (a : Nat) (R : xN) : Option (Int × xN) :=
  (f_X0_isFixed a R).bind (fun v1 =>
  if v1 = true then
  some ((-2), R)
  else
  if (R (a + 4) 5) = 0 then
  some ((-2), R)
  else
  xlet (xup R (a + 13) 0 (w4 ((R (a + 13) 0) + 1))) (fun R4 =>
  (f_X3_foldBy (a + 4) (R4 (a + 1) 0) (R4 (a + 1) 1) (w4 (Int.tdiv (R4 (a + 4) 4) 10)) R4).bind (fun v5 =>
  some ((v5.2 (a + 4) 5), v5.2))))
set_option maxRecDepth 20000 in
set_option maxHeartbeats 4000000 in
theorem c_X0_foldBack {l : Launch} {g : xG} {d : Nat} {A : xA} {R : xN} {a : Nat} (h_a : sh 0 A a)  : Ev l g (d + 4) mX0_foldBack 0 [xR a] [] A R (fun v : Int × xN => some (xI v.1)) (fun v => v.2) (f_X0_foldBack a R) := by
  rw [f_X0_foldBack]
  refine ev_st (pc' := 1) (L' := [xR a]) (st' := [xR a]) (fun _ _ _ k => e_aload_n dX0_foldBack_0 rfl (i := 0) (x := a) rfl k) ?_
  refine ev_callV (As := []) (st := []) (fun v1 => [xI (xz v1)]) dX0_foldBack_1 mlX0_88 (kd0_0 h_a) rfl rfl rfl rfl rfl rfl (c_X0_isFixed (d := d + 3) h_a) (fun _ => xz01 _) (fun _ => rfl) (fun v1 => ?_)
  refine ev_br2 (P := v1 = true) (pct := 17) (pcf := 7) (st' := []) (fun _ _ _ kt kf => e_ifnez dX0_foldBack_4 (tgt := 17) rfl kt kf) (fun h2 => ?_) (fun h2 => ?_)
  · exact ev_ret (e_bipush dX0_foldBack_17 rfl (k4 rfl) (e_iret dX0_foldBack_19))
  · refine ev_st (pc' := 14) (L' := [xR a]) (st' := [xI (R (a + 4) 5)]) (fun _ _ _ k => e_aload_n dX0_foldBack_7 rfl (i := 0) (x := a) rfl (e_getr dX0_foldBack_8 flX0_21 (kd0_0 h_a) rfl (rf0_0_1 h_a) (e_geti dX0_foldBack_11 flX0_85 (kd0_4 h_a) (Or.inl rfl) k))) ?_
    refine ev_br2 (P := (R (a + 4) 5) = 0) (pct := 17) (pcf := 20) (st' := []) (fun _ _ _ kt kf => e_ifne dX0_foldBack_14 (tgt := 20) rfl kt kf) (fun h3 => ?_) (fun h3 => ?_)
    · exact ev_ret (e_bipush dX0_foldBack_17 rfl (k4 rfl) (e_iret dX0_foldBack_19))
    · refine ev_st (pc' := 30) (L' := [xR a]) (st' := []) (fun _ _ _ k => e_aload_n dX0_foldBack_20 rfl (i := 0) (x := a) rfl (e_getr dX0_foldBack_21 flX0_39 (kd0_0 h_a) rfl (rf0_0_4 h_a) (e_iconst dX0_foldBack_24 (k4 rfl) (e_dup2 dX0_foldBack_25 (e_iald dX0_foldBack_26 (kd0_13 h_a) (by decide) (by decide) (e_iconst dX0_foldBack_27 (k4 rfl) (e_iadd dX0_foldBack_28 (e_iast dX0_foldBack_29 (kd0_13 h_a) (by decide) (by decide) k)))))))) ?_
      refine ev_letR (fun R4 eR4 => ?_)
      refine ev_st (pc' := 58) (L' := [xR a]) (st' := [xI (w4 (Int.tdiv (R4 (a + 4) 4) 10)), xI (R4 (a + 1) 1), xI (R4 (a + 1) 0), xR (a + 4)]) (fun _ _ _ k => e_aload_n dX0_foldBack_30 rfl (i := 0) (x := a) rfl (e_getr dX0_foldBack_31 flX0_21 (kd0_0 h_a) rfl (rf0_0_1 h_a) (e_aload_n dX0_foldBack_34 rfl (i := 0) (x := a) rfl (e_getr dX0_foldBack_35 flX0_12 (kd0_0 h_a) rfl (rf0_0_0 h_a) (e_geti dX0_foldBack_38 flX0_114 (kd0_1 h_a) (Or.inl rfl) (e_aload_n dX0_foldBack_41 rfl (i := 0) (x := a) rfl (e_getr dX0_foldBack_42 flX0_12 (kd0_0 h_a) rfl (rf0_0_0 h_a) (e_geti dX0_foldBack_45 flX0_117 (kd0_1 h_a) (Or.inl rfl) (e_aload_n dX0_foldBack_48 rfl (i := 0) (x := a) rfl (e_getr dX0_foldBack_49 flX0_21 (kd0_0 h_a) rfl (rf0_0_1 h_a) (e_geti dX0_foldBack_52 flX0_120 (kd0_4 h_a) (Or.inl rfl) (e_bipush dX0_foldBack_55 rfl (k4 rfl) (e_idiv dX0_foldBack_57 (by decide) k))))))))))))) ?_
      refine ev_callV (As := [xI (R4 (a + 1) 0), xI (R4 (a + 1) 1), xI (w4 (Int.tdiv (R4 (a + 4) 4) 10))]) (st := []) (fun v5 => [xI (xz v5.1)]) dX0_foldBack_58 mlX0_123 (kd0_4 h_a) rfl rfl rfl rfl rfl rfl (c_X3_foldBy (d := d) (sb0_4_3 h_a) (R4 (a + 1) 0) (R4 (a + 1) 1) (w4 (Int.tdiv (R4 (a + 4) 4) 10))) (fun _ => xz01 _) (fun _ => rfl) (fun v5 => ?_)
      exact ev_ret (e_pop dX0_foldBack_61 (e_aload_n dX0_foldBack_62 rfl (i := 0) (x := a) rfl (e_getr dX0_foldBack_63 flX0_21 (kd0_0 h_a) rfl (rf0_0_1 h_a) (e_geti dX0_foldBack_66 flX0_85 (kd0_4 h_a) (Or.inl rfl) (e_iret dX0_foldBack_69)))))
def f_X0_moveSpine (a : Nat) (i0 : Int) (R : xN) : Option (Int × xN) :=
  (f_X9_isIn i0 0 1 R).bind (fun v1 =>
  if v1 = true then
  if (R a 7) = 0 then
  xlet (R a 5) (fun x4 =>
  xlet (xup R a 5 i0) (fun R5 =>
  some (x4, R5)))
  else
  some ((-2), R)
  else
  some ((-1), R))
set_option maxRecDepth 20000 in
set_option maxHeartbeats 4000000 in
theorem c_X0_moveSpine {l : Launch} {g : xG} {d : Nat} {A : xA} {R : xN} {a : Nat} (h_a : sh 0 A a) (i0 : Int) : Ev l g (d + 1) mX0_moveSpine 0 [xR a, xI i0, xU] [] A R (fun v : Int × xN => some (xI v.1)) (fun v => v.2) (f_X0_moveSpine a i0 R) := by
  rw [f_X0_moveSpine]
  refine ev_st (pc' := 3) (L' := [xR a, xI i0, xU]) (st' := [xI 1, xI 0, xI i0]) (fun _ _ _ k => e_iload_n dX0_moveSpine_0 rfl (i := 1) (x := i0) rfl (e_iconst dX0_moveSpine_1 (k4 rfl) (e_iconst dX0_moveSpine_2 (k4 rfl) k))) ?_
  refine ev_callN (As := [xI i0, xI 0, xI 1]) (st := []) (fun v1 => [xI (xz v1)]) dX0_moveSpine_3 mlX0_92 rfl rfl rfl rfl rfl rfl (c_X9_isIn (d := d) i0 0 1) (fun _ => xz01 _) (fun _ => rfl) (fun v1 => ?_)
  refine ev_br2 (P := v1 = true) (pct := 11) (pcf := 9) (st' := []) (fun _ _ _ kt kf => e_ifnez dX0_moveSpine_6 (tgt := 11) rfl kt kf) (fun h2 => ?_) (fun h2 => ?_)
  · refine ev_st (pc' := 15) (L' := [xR a, xI i0, xU]) (st' := [xI (R a 7)]) (fun _ _ _ k => e_aload_n dX0_moveSpine_11 rfl (i := 0) (x := a) rfl (e_geti dX0_moveSpine_12 flX0_50 (kd0_0 h_a) (Or.inl rfl) k)) ?_
    refine ev_br2 (P := (R a 7) = 0) (pct := 21) (pcf := 18) (st' := []) (fun _ _ _ kt kf => e_ifeq dX0_moveSpine_15 (tgt := 21) rfl kt kf) (fun h3 => ?_) (fun h3 => ?_)
    · refine ev_st (pc' := 25) (L' := [xR a, xI i0, xU]) (st' := [xI (R a 5)]) (fun _ _ _ k => e_aload_n dX0_moveSpine_21 rfl (i := 0) (x := a) rfl (e_geti dX0_moveSpine_22 flX0_43 (kd0_0 h_a) (Or.inl rfl) k)) ?_
      refine ev_leti (fun x4 ex4 => ?_)
      refine ev_st (pc' := 26) (L' := [xR a, xI i0, xI x4]) (st' := []) (fun _ _ _ k => e_istore_n dX0_moveSpine_25 rfl (i := 2) rfl (L' := [xR a, xI i0, xI x4]) rfl k) ?_
      refine ev_st (pc' := 31) (L' := [xR a, xI i0, xI x4]) (st' := []) (fun _ _ _ k => e_aload_n dX0_moveSpine_26 rfl (i := 0) (x := a) rfl (e_iload_n dX0_moveSpine_27 rfl (i := 1) (x := i0) rfl (e_puti dX0_moveSpine_28 flX0_43 (kd0_0 h_a) (Or.inl rfl) rfl k))) ?_
      refine ev_letR (fun R5 eR5 => ?_)
      exact ev_ret (e_iload_n dX0_moveSpine_31 rfl (i := 2) (x := x4) rfl (e_iret dX0_moveSpine_32))
    · exact ev_ret (e_bipush dX0_moveSpine_18 rfl (k4 rfl) (e_iret dX0_moveSpine_20))
  · exact ev_ret (e_iconst dX0_moveSpine_9 (k4 rfl) (e_iret dX0_moveSpine_10))
def f_X3_lastPage (a : Nat) (R : xN) : Option (Int) :=
  (f_X3_depth a R).bind (fun v1 =>
  some (w4 ((w4 (v1 * 2)) - 1)))
set_option maxRecDepth 20000 in
set_option maxHeartbeats 4000000 in
theorem c_X3_lastPage {l : Launch} {g : xG} {d : Nat} {A : xA} {R : xN} {a : Nat} (h_a : sh 3 A a)  : Ev l g (d + 1) mX3_lastPage 0 [xR a] [] A R (fun v : Int => some (xI v)) (fun _ => R) (f_X3_lastPage a R) := by
  rw [f_X3_lastPage]
  refine ev_st (pc' := 1) (L' := [xR a]) (st' := [xR a]) (fun _ _ _ k => e_aload_n dX3_lastPage_0 rfl (i := 0) (x := a) rfl k) ?_
  refine ev_callV (As := []) (st := []) (fun v1 => [xI v1]) dX3_lastPage_1 mlX3_47 (kd3_0 h_a) rfl rfl rfl rfl rfl rfl (c_X3_depth (d := d) h_a) (fun _ => trivial) (fun _ => rfl) (fun v1 => ?_)
  exact ev_ret (e_iconst dX3_lastPage_4 (k4 rfl) (e_imul dX3_lastPage_5 (e_iconst dX3_lastPage_6 (k4 rfl) (e_isub dX3_lastPage_7 (e_iret dX3_lastPage_8)))))
def f_X3_sideUp (i0 : Int) (R : xN) : Option (Int) :=
  if (b4and i0 16) = 0 then
  if (b4and i0 32) = 0 then
  some 0
  else
  some 1
  else
  if (b4and i0 32) = 0 then
  some 1
  else
  some 0
set_option maxRecDepth 20000 in
set_option maxHeartbeats 4000000 in
theorem c_X3_sideUp {l : Launch} {g : xG} {d : Nat} {A : xA} {R : xN}  (i0 : Int) : Ev l g (d) mX3_sideUp 0 [xI i0, xU, xU] [] A R (fun v : Int => some (xI v)) (fun _ => R) (f_X3_sideUp i0 R) := by
  rw [f_X3_sideUp]
  refine ev_st (pc' := 4) (L' := [xI i0, xU, xU]) (st' := [xI (b4and i0 16)]) (fun _ _ _ k => e_iload_n dX3_sideUp_0 rfl (i := 0) (x := i0) rfl (e_bipush dX3_sideUp_1 rfl (k4 rfl) (e_iand dX3_sideUp_3 k))) ?_
  refine ev_br2 (P := (b4and i0 16) = 0) (pct := 11) (pcf := 7) (st' := []) (fun _ _ _ kt kf => e_ifeq dX3_sideUp_4 (tgt := 11) rfl kt kf) (fun h1 => ?_) (fun h1 => ?_)
  · refine ev_st (pc' := 17) (L' := [xI i0, xI 0, xU]) (st' := [xI (b4and i0 32)]) (fun _ _ _ k => e_iconst dX3_sideUp_11 (k4 rfl) (e_istore_n dX3_sideUp_12 rfl (i := 1) rfl (L' := [xI i0, xI 0, xU]) rfl (e_iload_n dX3_sideUp_13 rfl (i := 0) (x := i0) rfl (e_bipush dX3_sideUp_14 rfl (k4 rfl) (e_iand dX3_sideUp_16 k))))) ?_
    refine ev_br2 (P := (b4and i0 32) = 0) (pct := 24) (pcf := 20) (st' := []) (fun _ _ _ kt kf => e_ifeq dX3_sideUp_17 (tgt := 24) rfl kt kf) (fun h2 => ?_) (fun h2 => ?_)
    · refine ev_st (pc' := 31) (L' := [xI i0, xI 0, xI 0]) (st' := []) (fun _ _ _ k => e_iconst dX3_sideUp_24 (k4 rfl) (e_istore_n dX3_sideUp_25 rfl (i := 2) rfl (L' := [xI i0, xI 0, xI 0]) rfl (e_iload_n dX3_sideUp_26 rfl (i := 1) (x := 0) rfl (e_iload_n dX3_sideUp_27 rfl (i := 2) (x := 0) rfl (e_cneF dX3_sideUp_28 (tgt := 35) rfl (by decide) k))))) ?_
      exact ev_ret (e_iconst dX3_sideUp_31 (k4 rfl) (e_goto dX3_sideUp_32 (tgt := 36) rfl (e_iret dX3_sideUp_36)))
    · refine ev_st (pc' := 35) (L' := [xI i0, xI 0, xI 1]) (st' := []) (fun _ _ _ k => e_iconst dX3_sideUp_20 (k4 rfl) (e_goto dX3_sideUp_21 (tgt := 25) rfl (e_istore_n dX3_sideUp_25 rfl (i := 2) rfl (L' := [xI i0, xI 0, xI 1]) rfl (e_iload_n dX3_sideUp_26 rfl (i := 1) (x := 0) rfl (e_iload_n dX3_sideUp_27 rfl (i := 2) (x := 1) rfl (e_cneT dX3_sideUp_28 (tgt := 35) rfl (by decide) k)))))) ?_
      exact ev_ret (e_iconst dX3_sideUp_35 (k4 rfl) (e_iret dX3_sideUp_36))
  · refine ev_st (pc' := 17) (L' := [xI i0, xI 1, xU]) (st' := [xI (b4and i0 32)]) (fun _ _ _ k => e_iconst dX3_sideUp_7 (k4 rfl) (e_goto dX3_sideUp_8 (tgt := 12) rfl (e_istore_n dX3_sideUp_12 rfl (i := 1) rfl (L' := [xI i0, xI 1, xU]) rfl (e_iload_n dX3_sideUp_13 rfl (i := 0) (x := i0) rfl (e_bipush dX3_sideUp_14 rfl (k4 rfl) (e_iand dX3_sideUp_16 k)))))) ?_
    refine ev_br2 (P := (b4and i0 32) = 0) (pct := 24) (pcf := 20) (st' := []) (fun _ _ _ kt kf => e_ifeq dX3_sideUp_17 (tgt := 24) rfl kt kf) (fun h3 => ?_) (fun h3 => ?_)
    · refine ev_st (pc' := 35) (L' := [xI i0, xI 1, xI 0]) (st' := []) (fun _ _ _ k => e_iconst dX3_sideUp_24 (k4 rfl) (e_istore_n dX3_sideUp_25 rfl (i := 2) rfl (L' := [xI i0, xI 1, xI 0]) rfl (e_iload_n dX3_sideUp_26 rfl (i := 1) (x := 1) rfl (e_iload_n dX3_sideUp_27 rfl (i := 2) (x := 0) rfl (e_cneT dX3_sideUp_28 (tgt := 35) rfl (by decide) k))))) ?_
      exact ev_ret (e_iconst dX3_sideUp_35 (k4 rfl) (e_iret dX3_sideUp_36))
    · refine ev_st (pc' := 31) (L' := [xI i0, xI 1, xI 1]) (st' := []) (fun _ _ _ k => e_iconst dX3_sideUp_20 (k4 rfl) (e_goto dX3_sideUp_21 (tgt := 25) rfl (e_istore_n dX3_sideUp_25 rfl (i := 2) rfl (L' := [xI i0, xI 1, xI 1]) rfl (e_iload_n dX3_sideUp_26 rfl (i := 1) (x := 1) rfl (e_iload_n dX3_sideUp_27 rfl (i := 2) (x := 1) rfl (e_cneF dX3_sideUp_28 (tgt := 35) rfl (by decide) k)))))) ?_
      exact ev_ret (e_iconst dX3_sideUp_31 (k4 rfl) (e_goto dX3_sideUp_32 (tgt := 36) rfl (e_iret dX3_sideUp_36)))
def f_X9_placeOfSide (i0 : Int) (i1 : Int) (R : xN) : Option (Int) :=
  some (w4 ((w4 (i0 * 2)) + i1))
set_option maxRecDepth 20000 in
set_option maxHeartbeats 4000000 in
theorem c_X9_placeOfSide {l : Launch} {g : xG} {d : Nat} {A : xA} {R : xN}  (i0 : Int) (i1 : Int) : Ev l g (d) mX9_placeOfSide 0 [xI i0, xI i1] [] A R (fun v : Int => some (xI v)) (fun _ => R) (f_X9_placeOfSide i0 i1 R) := by
  rw [f_X9_placeOfSide]
  exact ev_ret (e_iload_n dX9_placeOfSide_0 rfl (i := 0) (x := i0) rfl (e_iconst dX9_placeOfSide_1 (k4 rfl) (e_imul dX9_placeOfSide_2 (e_iload_n dX9_placeOfSide_3 rfl (i := 1) (x := i1) rfl (e_iadd dX9_placeOfSide_4 (e_iret dX9_placeOfSide_5))))))
def f_X3_paperPlace (a : Nat) (i0 : Int) (R : xN) : Option (Int) :=
  (f_X3_at a (w4 (Int.tdiv i0 2)) R).bind (fun v1 =>
  (f_X3_sideUp v1 R).bind (fun v2 =>
  (f_X9_placeOfSide (b4and v1 15) (b4xor v2 (b4and i0 1)) R).bind (fun v3 =>
  some v3)))
set_option maxRecDepth 20000 in
set_option maxHeartbeats 4000000 in
theorem c_X3_paperPlace {l : Launch} {g : xG} {d : Nat} {A : xA} {R : xN} {a : Nat} (h_a : sh 3 A a) (i0 : Int) : Ev l g (d + 1) mX3_paperPlace 0 [xR a, xI i0, xU] [] A R (fun v : Int => some (xI v)) (fun _ => R) (f_X3_paperPlace a i0 R) := by
  rw [f_X3_paperPlace]
  refine ev_st (pc' := 4) (L' := [xR a, xI i0, xU]) (st' := [xI (w4 (Int.tdiv i0 2)), xR a]) (fun _ _ _ k => e_aload_n dX3_paperPlace_0 rfl (i := 0) (x := a) rfl (e_iload_n dX3_paperPlace_1 rfl (i := 1) (x := i0) rfl (e_iconst dX3_paperPlace_2 (k4 rfl) (e_idiv dX3_paperPlace_3 (by decide) k)))) ?_
  refine ev_callV (As := [xI (w4 (Int.tdiv i0 2))]) (st := []) (fun v1 => [xI v1]) dX3_paperPlace_4 mlX3_55 (kd3_0 h_a) rfl rfl rfl rfl rfl rfl (c_X3_at (d := d) h_a (w4 (Int.tdiv i0 2))) (fun _ => trivial) (fun _ => rfl) (fun v1 => ?_)
  refine ev_st (pc' := 13) (L' := [xR a, xI i0, xI v1]) (st' := [xI v1, xI (b4and v1 15)]) (fun _ _ _ k => e_istore_n dX3_paperPlace_7 rfl (i := 2) rfl (L' := [xR a, xI i0, xI v1]) rfl (e_iload_n dX3_paperPlace_8 rfl (i := 2) (x := v1) rfl (e_bipush dX3_paperPlace_9 rfl (k4 rfl) (e_iand dX3_paperPlace_11 (e_iload_n dX3_paperPlace_12 rfl (i := 2) (x := v1) rfl k))))) ?_
  refine ev_callS (As := [xI v1]) (st := [xI (b4and v1 15)]) (fun v2 => [xI v2, xI (b4and v1 15)]) dX3_paperPlace_13 mlX3_85 rfl rfl rfl rfl rfl rfl (c_X3_sideUp (d := d) v1) (fun _ => trivial) (fun _ => rfl) (fun v2 => ?_)
  refine ev_st (pc' := 20) (L' := [xR a, xI i0, xI v1]) (st' := [xI (b4xor v2 (b4and i0 1)), xI (b4and v1 15)]) (fun _ _ _ k => e_iload_n dX3_paperPlace_16 rfl (i := 1) (x := i0) rfl (e_iconst dX3_paperPlace_17 (k4 rfl) (e_iand dX3_paperPlace_18 (e_ixor dX3_paperPlace_19 k)))) ?_
  refine ev_callN (As := [xI (b4and v1 15), xI (b4xor v2 (b4and i0 1))]) (st := []) (fun v3 => [xI v3]) dX3_paperPlace_20 mlX3_91 rfl rfl rfl rfl rfl rfl (c_X9_placeOfSide (d := d) (b4and v1 15) (b4xor v2 (b4and i0 1))) (fun _ => trivial) (fun _ => rfl) (fun v3 => ?_)
  exact ev_ret (e_iret dX3_paperPlace_23)
def f_X3_isUpsideDown (a : Nat) (i0 : Int) (R : xN) : Option (Bool) :=
  (f_X3_at a i0 R).bind (fun v1 =>
  if (b4and v1 32) = 0 then
  some false
  else
  some true)
set_option maxRecDepth 20000 in
set_option maxHeartbeats 4000000 in
theorem c_X3_isUpsideDown {l : Launch} {g : xG} {d : Nat} {A : xA} {R : xN} {a : Nat} (h_a : sh 3 A a) (i0 : Int) : Ev l g (d + 1) mX3_isUpsideDown 0 [xR a, xI i0] [] A R (fun v : Bool => some (xI (xz v))) (fun _ => R) (f_X3_isUpsideDown a i0 R) := by
  rw [f_X3_isUpsideDown]
  refine ev_st (pc' := 2) (L' := [xR a, xI i0]) (st' := [xI i0, xR a]) (fun _ _ _ k => e_aload_n dX3_isUpsideDown_0 rfl (i := 0) (x := a) rfl (e_iload_n dX3_isUpsideDown_1 rfl (i := 1) (x := i0) rfl k)) ?_
  refine ev_callV (As := [xI i0]) (st := []) (fun v1 => [xI v1]) dX3_isUpsideDown_2 mlX3_55 (kd3_0 h_a) rfl rfl rfl rfl rfl rfl (c_X3_at (d := d) h_a i0) (fun _ => trivial) (fun _ => rfl) (fun v1 => ?_)
  refine ev_st (pc' := 8) (L' := [xR a, xI i0]) (st' := [xI (b4and v1 32)]) (fun _ _ _ k => e_bipush dX3_isUpsideDown_5 rfl (k4 rfl) (e_iand dX3_isUpsideDown_7 k)) ?_
  refine ev_br2 (P := (b4and v1 32) = 0) (pct := 15) (pcf := 11) (st' := []) (fun _ _ _ kt kf => e_ifeq dX3_isUpsideDown_8 (tgt := 15) rfl kt kf) (fun h2 => ?_) (fun h2 => ?_)
  · exact ev_ret (e_iconst dX3_isUpsideDown_15 (k4 rfl) (e_iret dX3_isUpsideDown_16))
  · exact ev_ret (e_iconst dX3_isUpsideDown_11 (k4 rfl) (e_goto dX3_isUpsideDown_12 (tgt := 16) rfl (e_iret dX3_isUpsideDown_16)))
def f_X9_asNumber (i0 : Bool) (R : xN) : Option (Int) :=
  if i0 = true then
  some 1
  else
  some 0
set_option maxRecDepth 20000 in
set_option maxHeartbeats 4000000 in
theorem c_X9_asNumber {l : Launch} {g : xG} {d : Nat} {A : xA} {R : xN}  (i0 : Bool) : Ev l g (d) mX9_asNumber 0 [xI (xz i0)] [] A R (fun v : Int => some (xI v)) (fun _ => R) (f_X9_asNumber i0 R) := by
  rw [f_X9_asNumber]
  refine ev_st (pc' := 1) (L' := [xI (xz i0)]) (st' := [xI (xz i0)]) (fun _ _ _ k => e_iload_n dX9_asNumber_0 rfl (i := 0) (x := (xz i0)) rfl k) ?_
  refine ev_br2 (P := i0 = true) (pct := 4) (pcf := 8) (st' := []) (fun _ _ _ kt kf => e_ifeqz dX9_asNumber_1 (tgt := 8) rfl kt kf) (fun h1 => ?_) (fun h1 => ?_)
  · exact ev_ret (e_iconst dX9_asNumber_4 (k4 rfl) (e_goto dX9_asNumber_5 (tgt := 9) rfl (e_iret dX9_asNumber_9)))
  · exact ev_ret (e_iconst dX9_asNumber_8 (k4 rfl) (e_iret dX9_asNumber_9))
def f_X0_turnForUpright (a : Nat) (b : Nat) (i1 : Int) (R : xN) : Option (Int) :=
  xlet (if (R a 5) = 1 then (b4and i1 1) else 0) (fun t1 =>
  (f_X3_isUpsideDown b (w4 (Int.tdiv i1 2)) R).bind (fun v2 =>
  (f_X9_asNumber v2 R).bind (fun v3 =>
  some (b4xor v3 t1))))
set_option maxRecDepth 20000 in
set_option maxHeartbeats 4000000 in
theorem c_X0_turnForUpright {l : Launch} {g : xG} {d : Nat} {A : xA} {R : xN} {a : Nat} {b : Nat} (h_a : sh 0 A a) (h_b : sh 3 A b) (i1 : Int) : Ev l g (d + 2) mX0_turnForUpright 0 [xR a, xR b, xI i1, xU] [] A R (fun v : Int => some (xI v)) (fun _ => R) (f_X0_turnForUpright a b i1 R) := by
  rw [f_X0_turnForUpright]
  refine ev_st (pc' := 5) (L' := [xR a, xR b, xI i1, xU]) (st' := [xI 1, xI (R a 5)]) (fun _ _ _ k => e_aload_n dX0_turnForUpright_0 rfl (i := 0) (x := a) rfl (e_geti dX0_turnForUpright_1 flX0_43 (kd0_0 h_a) (Or.inl rfl) (e_iconst dX0_turnForUpright_4 (k4 rfl) k))) ?_
  refine ev_tern (P := (R a 5) = 1) (a := (b4and i1 1)) (b := 0) (pct := 8) (pcf := 14) (J := 15) (st' := []) (fun _ _ _ kt kf => e_cne dX0_turnForUpright_5 (tgt := 14) rfl kt kf) (fun _ _ _ k => e_iload_n dX0_turnForUpright_8 rfl (i := 2) (x := i1) rfl (e_iconst dX0_turnForUpright_9 (k4 rfl) (e_iand dX0_turnForUpright_10 (e_goto dX0_turnForUpright_11 (tgt := 15) rfl k)))) (fun _ _ _ k => e_iconst dX0_turnForUpright_14 (k4 rfl) k) (fun t1 et1 => ?_)
  refine ev_st (pc' := 20) (L' := [xR a, xR b, xI i1, xI t1]) (st' := [xI (w4 (Int.tdiv i1 2)), xR b]) (fun _ _ _ k => e_istore_n dX0_turnForUpright_15 rfl (i := 3) rfl (L' := [xR a, xR b, xI i1, xI t1]) rfl (e_aload_n dX0_turnForUpright_16 rfl (i := 1) (x := b) rfl (e_iload_n dX0_turnForUpright_17 rfl (i := 2) (x := i1) rfl (e_iconst dX0_turnForUpright_18 (k4 rfl) (e_idiv dX0_turnForUpright_19 (by decide) k))))) ?_
  refine ev_callV (As := [xI (w4 (Int.tdiv i1 2))]) (st := []) (fun v2 => [xI (xz v2)]) dX0_turnForUpright_20 mlX0_183 (kd3_0 h_b) rfl rfl rfl rfl rfl rfl (c_X3_isUpsideDown (d := d) h_b (w4 (Int.tdiv i1 2))) (fun _ => xz01 _) (fun _ => rfl) (fun v2 => ?_)
  refine ev_callN (As := [xI (xz v2)]) (st := []) (fun v3 => [xI v3]) dX0_turnForUpright_23 mlX0_186 rfl rfl rfl rfl rfl rfl (c_X9_asNumber (d := d + 1) v2) (fun _ => trivial) (fun _ => rfl) (fun v3 => ?_)
  exact ev_ret (e_iload_n dX0_turnForUpright_26 rfl (i := 3) (x := t1) rfl (e_ixor dX0_turnForUpright_27 (e_iret dX0_turnForUpright_28)))
def f_X5_stamp (a : Nat) (i0 : Int) (i1 : Int) (i2 : Int) (R : xN) : Option (Int × xN) :=
  (f_X9_isIn i0 0 31 R).bind (fun v1 =>
  if v1 = true then
  if 0 ≤ i0 ∧ i0 < 32 then
  if (R (a + 1) (i0).toNat) = i1 then
  if 0 ≤ i0 ∧ i0 < 32 then
  if (R (a + 2) (i0).toNat) = i2 then
  some (0, R)
  else
  if 0 ≤ i0 ∧ i0 < 32 then
  xlet (xup R (a + 1) (i0).toNat i1) (fun R8 =>
  if 0 ≤ i0 ∧ i0 < 32 then
  xlet (xup R8 (a + 2) (i0).toNat i2) (fun R10 =>
  some (1, R10))
  else none)
  else none
  else none
  else
  if 0 ≤ i0 ∧ i0 < 32 then
  xlet (xup R (a + 1) (i0).toNat i1) (fun R12 =>
  if 0 ≤ i0 ∧ i0 < 32 then
  xlet (xup R12 (a + 2) (i0).toNat i2) (fun R14 =>
  some (1, R14))
  else none)
  else none
  else none
  else
  some (0, R))
set_option maxRecDepth 20000 in
set_option maxHeartbeats 4000000 in
theorem c_X5_stamp {l : Launch} {g : xG} {d : Nat} {A : xA} {R : xN} {a : Nat} (h_a : sh 5 A a) (i0 : Int) (i1 : Int) (i2 : Int) : Ev l g (d + 1) mX5_stamp 0 [xR a, xI i0, xI i1, xI i2] [] A R (fun v : Int × xN => some (xI v.1)) (fun v => v.2) (f_X5_stamp a i0 i1 i2 R) := by
  rw [f_X5_stamp]
  refine ev_st (pc' := 4) (L' := [xR a, xI i0, xI i1, xI i2]) (st' := [xI 31, xI 0, xI i0]) (fun _ _ _ k => e_iload_n dX5_stamp_0 rfl (i := 1) (x := i0) rfl (e_iconst dX5_stamp_1 (k4 rfl) (e_bipush dX5_stamp_2 rfl (k4 rfl) k))) ?_
  refine ev_callN (As := [xI i0, xI 0, xI 31]) (st := []) (fun v1 => [xI (xz v1)]) dX5_stamp_4 mlX5_37 rfl rfl rfl rfl rfl rfl (c_X9_isIn (d := d) i0 0 31) (fun _ => xz01 _) (fun _ => rfl) (fun v1 => ?_)
  refine ev_br2 (P := v1 = true) (pct := 10) (pcf := 30) (st' := []) (fun _ _ _ kt kf => e_ifeqz dX5_stamp_7 (tgt := 30) rfl kt kf) (fun h2 => ?_) (fun h2 => ?_)
  · refine ev_st (pc' := 15) (L' := [xR a, xI i0, xI i1, xI i2]) (st' := [xI i0, xR (a + 1)]) (fun _ _ _ k => e_aload_n dX5_stamp_10 rfl (i := 0) (x := a) rfl (e_getr dX5_stamp_11 flX5_18 (kd5_0 h_a) rfl (rf5_0_2 h_a) (e_iload_n dX5_stamp_14 rfl (i := 1) (x := i0) rfl k))) ?_
    refine ev_chk (fun h3 => ?_)
    refine ev_st (pc' := 16) (L' := [xR a, xI i0, xI i1, xI i2]) (st' := [xI (R (a + 1) (i0).toNat)]) (fun _ _ _ k => e_iald dX5_stamp_15 (kd5_1 h_a) h3.1 h3.2 k) ?_
    refine ev_st (pc' := 17) (L' := [xR a, xI i0, xI i1, xI i2]) (st' := [xI i1, xI (R (a + 1) (i0).toNat)]) (fun _ _ _ k => e_iload_n dX5_stamp_16 rfl (i := 2) (x := i1) rfl k) ?_
    refine ev_br2 (P := (R (a + 1) (i0).toNat) = i1) (pct := 20) (pcf := 32) (st' := []) (fun _ _ _ kt kf => e_cne dX5_stamp_17 (tgt := 32) rfl kt kf) (fun h4 => ?_) (fun h4 => ?_)
    · refine ev_st (pc' := 25) (L' := [xR a, xI i0, xI i1, xI i2]) (st' := [xI i0, xR (a + 2)]) (fun _ _ _ k => e_aload_n dX5_stamp_20 rfl (i := 0) (x := a) rfl (e_getr dX5_stamp_21 flX5_22 (kd5_0 h_a) rfl (rf5_0_3 h_a) (e_iload_n dX5_stamp_24 rfl (i := 1) (x := i0) rfl k))) ?_
      refine ev_chk (fun h5 => ?_)
      refine ev_st (pc' := 26) (L' := [xR a, xI i0, xI i1, xI i2]) (st' := [xI (R (a + 2) (i0).toNat)]) (fun _ _ _ k => e_iald dX5_stamp_25 (kd5_2 h_a) h5.1 h5.2 k) ?_
      refine ev_st (pc' := 27) (L' := [xR a, xI i0, xI i1, xI i2]) (st' := [xI i2, xI (R (a + 2) (i0).toNat)]) (fun _ _ _ k => e_iload_n dX5_stamp_26 rfl (i := 3) (x := i2) rfl k) ?_
      refine ev_br2 (P := (R (a + 2) (i0).toNat) = i2) (pct := 30) (pcf := 32) (st' := []) (fun _ _ _ kt kf => e_cne dX5_stamp_27 (tgt := 32) rfl kt kf) (fun h6 => ?_) (fun h6 => ?_)
      · exact ev_ret (e_iconst dX5_stamp_30 (k4 rfl) (e_iret dX5_stamp_31))
      · refine ev_st (pc' := 38) (L' := [xR a, xI i0, xI i1, xI i2]) (st' := [xI i1, xI i0, xR (a + 1)]) (fun _ _ _ k => e_aload_n dX5_stamp_32 rfl (i := 0) (x := a) rfl (e_getr dX5_stamp_33 flX5_18 (kd5_0 h_a) rfl (rf5_0_2 h_a) (e_iload_n dX5_stamp_36 rfl (i := 1) (x := i0) rfl (e_iload_n dX5_stamp_37 rfl (i := 2) (x := i1) rfl k)))) ?_
        refine ev_chk (fun h7 => ?_)
        refine ev_st (pc' := 39) (L' := [xR a, xI i0, xI i1, xI i2]) (st' := []) (fun _ _ _ k => e_iast dX5_stamp_38 (kd5_1 h_a) h7.1 h7.2 k) ?_
        refine ev_letR (fun R8 eR8 => ?_)
        refine ev_st (pc' := 45) (L' := [xR a, xI i0, xI i1, xI i2]) (st' := [xI i2, xI i0, xR (a + 2)]) (fun _ _ _ k => e_aload_n dX5_stamp_39 rfl (i := 0) (x := a) rfl (e_getr dX5_stamp_40 flX5_22 (kd5_0 h_a) rfl (rf5_0_3 h_a) (e_iload_n dX5_stamp_43 rfl (i := 1) (x := i0) rfl (e_iload_n dX5_stamp_44 rfl (i := 3) (x := i2) rfl k)))) ?_
        refine ev_chk (fun h9 => ?_)
        refine ev_st (pc' := 46) (L' := [xR a, xI i0, xI i1, xI i2]) (st' := []) (fun _ _ _ k => e_iast dX5_stamp_45 (kd5_2 h_a) h9.1 h9.2 k) ?_
        refine ev_letR (fun R10 eR10 => ?_)
        exact ev_ret (e_iconst dX5_stamp_46 (k4 rfl) (e_iret dX5_stamp_47))
    · refine ev_st (pc' := 38) (L' := [xR a, xI i0, xI i1, xI i2]) (st' := [xI i1, xI i0, xR (a + 1)]) (fun _ _ _ k => e_aload_n dX5_stamp_32 rfl (i := 0) (x := a) rfl (e_getr dX5_stamp_33 flX5_18 (kd5_0 h_a) rfl (rf5_0_2 h_a) (e_iload_n dX5_stamp_36 rfl (i := 1) (x := i0) rfl (e_iload_n dX5_stamp_37 rfl (i := 2) (x := i1) rfl k)))) ?_
      refine ev_chk (fun h11 => ?_)
      refine ev_st (pc' := 39) (L' := [xR a, xI i0, xI i1, xI i2]) (st' := []) (fun _ _ _ k => e_iast dX5_stamp_38 (kd5_1 h_a) h11.1 h11.2 k) ?_
      refine ev_letR (fun R12 eR12 => ?_)
      refine ev_st (pc' := 45) (L' := [xR a, xI i0, xI i1, xI i2]) (st' := [xI i2, xI i0, xR (a + 2)]) (fun _ _ _ k => e_aload_n dX5_stamp_39 rfl (i := 0) (x := a) rfl (e_getr dX5_stamp_40 flX5_22 (kd5_0 h_a) rfl (rf5_0_3 h_a) (e_iload_n dX5_stamp_43 rfl (i := 1) (x := i0) rfl (e_iload_n dX5_stamp_44 rfl (i := 3) (x := i2) rfl k)))) ?_
      refine ev_chk (fun h13 => ?_)
      refine ev_st (pc' := 46) (L' := [xR a, xI i0, xI i1, xI i2]) (st' := []) (fun _ _ _ k => e_iast dX5_stamp_45 (kd5_2 h_a) h13.1 h13.2 k) ?_
      refine ev_letR (fun R14 eR14 => ?_)
      exact ev_ret (e_iconst dX5_stamp_46 (k4 rfl) (e_iret dX5_stamp_47))
  · exact ev_ret (e_iconst dX5_stamp_30 (k4 rfl) (e_iret dX5_stamp_31))
def lp_X0_printSheet_39 (a : Nat) (b : Nat) : Nat → Int → Int → xN → (Int → Int → xN → Option (Int × xN)) → Option (Int × xN)
  | 0, _, _, _, _ => none
  | n + 1, y3, y4, R, X =>
    (f_X3_lastPage b R).bind (fun v5 =>
    if v5 < y4 then
    X y3 y4 R
    else
    (f_X3_paperPlace b y4 R).bind (fun v7 =>
    (f_X0_turnForUpright a b y4 R).bind (fun v8 =>
    (f_X5_stamp (a + 1) v7 y4 v8 R).bind (fun v9 =>
    xlet (w4 (y3 + v9.1)) (fun x10 =>
    xlet (w4 (y4 + 1)) (fun x11 =>
    lp_X0_printSheet_39 a b n x10 x11 v9.2 X))))))
def f_X0_printSheet (a : Nat) (b : Nat) (i1 : Int) (R : xN) : Option (Int × xN) :=
  (f_X3_foldBy b (R (a + 1) 0) (R (a + 1) 1) i1 R).bind (fun v1 =>
  if v1.1 = true then
  (f_X0_isOpenAndFree a v1.2).bind (fun v3 =>
  if v3 = true then
  lp_X0_printSheet_39 a b 6000 0 0 v1.2 (fun z12 z13 R14 =>
  xlet (xup R14 (a + 13) 1 (w4 ((R14 (a + 13) 1) + z12))) (fun R15 =>
  some (z12, R15)))
  else
  some ((-2), v1.2))
  else
  some ((-1), v1.2))
set_option maxRecDepth 20000 in
set_option maxHeartbeats 4000000 in
theorem lc_X0_printSheet_39 {l : Launch} {g : xG} {d : Nat} {A : xA} {a : Nat} {b : Nat} (h_a : sh 0 A a) (h_b : sh 3 A b)  {X : Int → Int → xN → Option (Int × xN)} (hX : ∀ (y3 : Int) (y4 : Int) (R : xN), Ev l g (d + 4) mX0_printSheet 79 [xR a, xU, xU, xI y3, xU] [] A R (fun v : Int × xN => some (xI v.1)) (fun v => v.2) (X y3 y4 R)) (n : Nat) (y3 : Int) (y4 : Int) (R : xN) : Ev l g (d + 4) mX0_printSheet 39 [xR a, xR b, xU, xI y3, xI y4] [] A R (fun v : Int × xN => some (xI v.1)) (fun v => v.2) (lp_X0_printSheet_39 a b n y3 y4 R X) := by
  induction n generalizing y3 y4 R with
  | zero => exact ev_none
  | succ n ih =>
    rw [lp_X0_printSheet_39]
    refine ev_st (pc' := 42) (L' := [xR a, xR b, xU, xI y3, xI y4]) (st' := [xR b, xI y4]) (fun _ _ _ k => e_iload dX0_printSheet_39 (i := 4) (x := y4) rfl (e_aload_n dX0_printSheet_41 rfl (i := 1) (x := b) rfl k)) ?_
    refine ev_callV (As := []) (st := [xI y4]) (fun v5 => [xI v5, xI y4]) dX0_printSheet_42 mlX0_147 (kd3_0 h_b) rfl rfl rfl rfl rfl rfl (c_X3_lastPage (d := d + 2) h_b) (fun _ => trivial) (fun _ => rfl) (fun v5 => ?_)
    refine ev_br2 (P := v5 < y4) (pct := 79) (pcf := 48) (st' := []) (fun _ _ _ kt kf => e_cgt dX0_printSheet_45 (tgt := 79) rfl kt kf) (fun h6 => ?_) (fun h6 => ?_)
    · refine ev_st (pc' := 79) (L' := [xR a, xU, xU, xI y3, xU]) (st' := []) (fun _ _ _ k => e_fg [1, 4] k) ?_
      exact hX y3 y4 R
    · refine ev_st (pc' := 56) (L' := [xR a, xR b, xU, xI y3, xI y4]) (st' := [xI y4, xR b, xR (a + 1), xI y3]) (fun _ _ _ k => e_iload_n dX0_printSheet_48 rfl (i := 3) (x := y3) rfl (e_aload_n dX0_printSheet_49 rfl (i := 0) (x := a) rfl (e_getr dX0_printSheet_50 flX0_12 (kd0_0 h_a) rfl (rf0_0_0 h_a) (e_aload_n dX0_printSheet_53 rfl (i := 1) (x := b) rfl (e_iload dX0_printSheet_54 (i := 4) (x := y4) rfl k))))) ?_
      refine ev_callV (As := [xI y4]) (st := [xR (a + 1), xI y3]) (fun v7 => [xI v7, xR (a + 1), xI y3]) dX0_printSheet_56 mlX0_150 (kd3_0 h_b) rfl rfl rfl rfl rfl rfl (c_X3_paperPlace (d := d + 2) h_b y4) (fun _ => trivial) (fun _ => rfl) (fun v7 => ?_)
      refine ev_st (pc' := 65) (L' := [xR a, xR b, xU, xI y3, xI y4]) (st' := [xI y4, xR b, xR a, xI y4, xI v7, xR (a + 1), xI y3]) (fun _ _ _ k => e_iload dX0_printSheet_59 (i := 4) (x := y4) rfl (e_aload_n dX0_printSheet_61 rfl (i := 0) (x := a) rfl (e_aload_n dX0_printSheet_62 rfl (i := 1) (x := b) rfl (e_iload dX0_printSheet_63 (i := 4) (x := y4) rfl k)))) ?_
      refine ev_callV (As := [xR b, xI y4]) (st := [xI y4, xI v7, xR (a + 1), xI y3]) (fun v8 => [xI v8, xI y4, xI v7, xR (a + 1), xI y3]) dX0_printSheet_65 mlX0_153 (kd0_0 h_a) rfl rfl rfl rfl rfl rfl (c_X0_turnForUpright (d := d + 1) h_a h_b y4) (fun _ => trivial) (fun _ => rfl) (fun v8 => ?_)
      refine ev_callV (As := [xI v7, xI y4, xI v8]) (st := [xI y3]) (fun v9 => [xI v9.1, xI y3]) dX0_printSheet_68 mlX0_143 (kd0_1 h_a) rfl rfl rfl rfl rfl rfl (c_X5_stamp (d := d + 2) (sb0_1_5 h_a) v7 y4 v8) (fun _ => trivial) (fun _ => rfl) (fun v9 => ?_)
      refine ev_st (pc' := 72) (L' := [xR a, xR b, xU, xI y3, xI y4]) (st' := [xI (w4 (y3 + v9.1))]) (fun _ _ _ k => e_iadd dX0_printSheet_71 k) ?_
      refine ev_leti (fun x10 ex10 => ?_)
      refine ev_st (pc' := 73) (L' := [xR a, xR b, xU, xI x10, xI y4]) (st' := []) (fun _ _ _ k => e_istore_n dX0_printSheet_72 rfl (i := 3) rfl (L' := [xR a, xR b, xU, xI x10, xI y4]) rfl k) ?_
      refine ev_letx (fun x11 ex11 => ?_)
      refine ev_st (pc' := 76) (L' := [xR a, xR b, xU, xI x10, xI x11]) (st' := []) (fun _ _ _ k => e_iinc dX0_printSheet_73 (i := 4) rfl (x := y4) rfl (y := x11) ex11 (L' := [xR a, xR b, xU, xI x10, xI x11]) rfl k) ?_
      refine ev_st (pc' := 39) (L' := [xR a, xR b, xU, xI x10, xI x11]) (st' := []) (fun _ _ _ k => e_goto dX0_printSheet_76 (tgt := 39) rfl k) ?_
      exact ih x10 x11 v9.2
set_option maxRecDepth 20000 in
set_option maxHeartbeats 4000000 in
theorem c_X0_printSheet {l : Launch} {g : xG} {d : Nat} {A : xA} {R : xN} {a : Nat} {b : Nat} (h_a : sh 0 A a) (h_b : sh 3 A b) (i1 : Int) : Ev l g (d + 4) mX0_printSheet 0 [xR a, xR b, xI i1, xU, xU] [] A R (fun v : Int × xN => some (xI v.1)) (fun v => v.2) (f_X0_printSheet a b i1 R) := by
  rw [f_X0_printSheet]
  refine ev_st (pc' := 16) (L' := [xR a, xR b, xI i1, xU, xU]) (st' := [xI i1, xI (R (a + 1) 1), xI (R (a + 1) 0), xR b]) (fun _ _ _ k => e_aload_n dX0_printSheet_0 rfl (i := 1) (x := b) rfl (e_aload_n dX0_printSheet_1 rfl (i := 0) (x := a) rfl (e_getr dX0_printSheet_2 flX0_12 (kd0_0 h_a) rfl (rf0_0_0 h_a) (e_geti dX0_printSheet_5 flX0_114 (kd0_1 h_a) (Or.inl rfl) (e_aload_n dX0_printSheet_8 rfl (i := 0) (x := a) rfl (e_getr dX0_printSheet_9 flX0_12 (kd0_0 h_a) rfl (rf0_0_0 h_a) (e_geti dX0_printSheet_12 flX0_117 (kd0_1 h_a) (Or.inl rfl) (e_iload_n dX0_printSheet_15 rfl (i := 2) (x := i1) rfl k)))))))) ?_
  refine ev_callV (As := [xI (R (a + 1) 0), xI (R (a + 1) 1), xI i1]) (st := []) (fun v1 => [xI (xz v1.1)]) dX0_printSheet_16 mlX0_123 (kd3_0 h_b) rfl rfl rfl rfl rfl rfl (c_X3_foldBy (d := d) h_b (R (a + 1) 0) (R (a + 1) 1) i1) (fun _ => xz01 _) (fun _ => rfl) (fun v1 => ?_)
  refine ev_br2 (P := v1.1 = true) (pct := 24) (pcf := 22) (st' := []) (fun _ _ _ kt kf => e_ifnez dX0_printSheet_19 (tgt := 24) rfl kt kf) (fun h2 => ?_) (fun h2 => ?_)
  · refine ev_st (pc' := 25) (L' := [xR a, xR b, xI i1, xU, xU]) (st' := [xR a]) (fun _ _ _ k => e_aload_n dX0_printSheet_24 rfl (i := 0) (x := a) rfl k) ?_
    refine ev_callV (As := []) (st := []) (fun v3 => [xI (xz v3)]) dX0_printSheet_25 mlX0_129 (kd0_0 h_a) rfl rfl rfl rfl rfl rfl (c_X0_isOpenAndFree (d := d + 2) h_a) (fun _ => xz01 _) (fun _ => rfl) (fun v3 => ?_)
    refine ev_br2 (P := v3 = true) (pct := 34) (pcf := 31) (st' := []) (fun _ _ _ kt kf => e_ifnez dX0_printSheet_28 (tgt := 34) rfl kt kf) (fun h4 => ?_) (fun h4 => ?_)
    · refine ev_st (pc' := 39) (L' := [xR a, xR b, xU, xI 0, xI 0]) (st' := []) (fun _ _ _ k => e_iconst dX0_printSheet_34 (k4 rfl) (e_istore_n dX0_printSheet_35 rfl (i := 3) rfl (L' := [xR a, xR b, xI i1, xI 0, xU]) rfl (e_iconst dX0_printSheet_36 (k4 rfl) (e_istore dX0_printSheet_37 (i := 4) rfl (L' := [xR a, xR b, xI i1, xI 0, xI 0]) rfl (e_fg [2] k))))) ?_
      refine lc_X0_printSheet_39 h_a h_b (fun z12 z13 R14 => ?_) 6000 0 0 v1.2
      refine ev_st (pc' := 89) (L' := [xR a, xU, xU, xI z12, xU]) (st' := []) (fun _ _ _ k => e_aload_n dX0_printSheet_79 rfl (i := 0) (x := a) rfl (e_getr dX0_printSheet_80 flX0_39 (kd0_0 h_a) rfl (rf0_0_4 h_a) (e_iconst dX0_printSheet_83 (k4 rfl) (e_dup2 dX0_printSheet_84 (e_iald dX0_printSheet_85 (kd0_13 h_a) (by decide) (by decide) (e_iload_n dX0_printSheet_86 rfl (i := 3) (x := z12) rfl (e_iadd dX0_printSheet_87 (e_iast dX0_printSheet_88 (kd0_13 h_a) (by decide) (by decide) k)))))))) ?_
      refine ev_letR (fun R15 eR15 => ?_)
      exact ev_ret (e_iload_n dX0_printSheet_89 rfl (i := 3) (x := z12) rfl (e_iret dX0_printSheet_90))
    · exact ev_ret (e_bipush dX0_printSheet_31 rfl (k4 rfl) (e_iret dX0_printSheet_33))
  · exact ev_ret (e_iconst dX0_printSheet_22 (k4 rfl) (e_iret dX0_printSheet_23))
def f_X9_isInSet (i0 : Int) (i1 : Int) (R : xN) : Option (Bool) :=
  if (b4and (b4shr i1 i0) 1) = 1 then
  some true
  else
  some false
set_option maxRecDepth 20000 in
set_option maxHeartbeats 4000000 in
theorem c_X9_isInSet {l : Launch} {g : xG} {d : Nat} {A : xA} {R : xN}  (i0 : Int) (i1 : Int) : Ev l g (d) mX9_isInSet 0 [xI i0, xI i1] [] A R (fun v : Bool => some (xI (xz v))) (fun _ => R) (f_X9_isInSet i0 i1 R) := by
  rw [f_X9_isInSet]
  refine ev_st (pc' := 6) (L' := [xI i0, xI i1]) (st' := [xI 1, xI (b4and (b4shr i1 i0) 1)]) (fun _ _ _ k => e_iload_n dX9_isInSet_0 rfl (i := 1) (x := i1) rfl (e_iload_n dX9_isInSet_1 rfl (i := 0) (x := i0) rfl (e_ishr dX9_isInSet_2 (e_iconst dX9_isInSet_3 (k4 rfl) (e_iand dX9_isInSet_4 (e_iconst dX9_isInSet_5 (k4 rfl) k)))))) ?_
  refine ev_br2 (P := (b4and (b4shr i1 i0) 1) = 1) (pct := 9) (pcf := 13) (st' := []) (fun _ _ _ kt kf => e_cne dX9_isInSet_6 (tgt := 13) rfl kt kf) (fun h1 => ?_) (fun h1 => ?_)
  · exact ev_ret (e_iconst dX9_isInSet_9 (k4 rfl) (e_goto dX9_isInSet_10 (tgt := 14) rfl (e_iret dX9_isInSet_14)))
  · exact ev_ret (e_iconst dX9_isInSet_13 (k4 rfl) (e_iret dX9_isInSet_14))
def f_X3_columnOf (i0 : Int) (R : xN) : Option (Int) :=
  some (Int.tmod (b4and i0 15) 4)
set_option maxRecDepth 20000 in
set_option maxHeartbeats 4000000 in
theorem c_X3_columnOf {l : Launch} {g : xG} {d : Nat} {A : xA} {R : xN}  (i0 : Int) : Ev l g (d) mX3_columnOf 0 [xI i0] [] A R (fun v : Int => some (xI v)) (fun _ => R) (f_X3_columnOf i0 R) := by
  rw [f_X3_columnOf]
  exact ev_ret (e_iload_n dX3_columnOf_0 rfl (i := 0) (x := i0) rfl (e_bipush dX3_columnOf_1 rfl (k4 rfl) (e_iand dX3_columnOf_3 (e_iconst dX3_columnOf_4 (k4 rfl) (e_irem dX3_columnOf_5 (by decide) (e_iret dX3_columnOf_6))))))
def f_X3_columnAt (a : Nat) (i0 : Int) (R : xN) : Option (Int) :=
  (f_X3_at a i0 R).bind (fun v1 =>
  (f_X3_columnOf v1 R).bind (fun v2 =>
  some v2))
set_option maxRecDepth 20000 in
set_option maxHeartbeats 4000000 in
theorem c_X3_columnAt {l : Launch} {g : xG} {d : Nat} {A : xA} {R : xN} {a : Nat} (h_a : sh 3 A a) (i0 : Int) : Ev l g (d + 1) mX3_columnAt 0 [xR a, xI i0] [] A R (fun v : Int => some (xI v)) (fun _ => R) (f_X3_columnAt a i0 R) := by
  rw [f_X3_columnAt]
  refine ev_st (pc' := 2) (L' := [xR a, xI i0]) (st' := [xI i0, xR a]) (fun _ _ _ k => e_aload_n dX3_columnAt_0 rfl (i := 0) (x := a) rfl (e_iload_n dX3_columnAt_1 rfl (i := 1) (x := i0) rfl k)) ?_
  refine ev_callV (As := [xI i0]) (st := []) (fun v1 => [xI v1]) dX3_columnAt_2 mlX3_55 (kd3_0 h_a) rfl rfl rfl rfl rfl rfl (c_X3_at (d := d) h_a i0) (fun _ => trivial) (fun _ => rfl) (fun v1 => ?_)
  refine ev_callS (As := [xI v1]) (st := []) (fun v2 => [xI v2]) dX3_columnAt_5 mlX3_82 rfl rfl rfl rfl rfl rfl (c_X3_columnOf (d := d) v1) (fun _ => trivial) (fun _ => rfl) (fun v2 => ?_)
  exact ev_ret (e_iret dX3_columnAt_8)
def f_X3_edgeToRight (i0 : Int) (R : xN) : Option (Int) :=
  if (b4and i0 16) = 0 then
  some 1
  else
  some 0
set_option maxRecDepth 20000 in
set_option maxHeartbeats 4000000 in
theorem c_X3_edgeToRight {l : Launch} {g : xG} {d : Nat} {A : xA} {R : xN}  (i0 : Int) : Ev l g (d) mX3_edgeToRight 0 [xI i0] [] A R (fun v : Int => some (xI v)) (fun _ => R) (f_X3_edgeToRight i0 R) := by
  rw [f_X3_edgeToRight]
  refine ev_st (pc' := 4) (L' := [xI i0]) (st' := [xI (b4and i0 16)]) (fun _ _ _ k => e_iload_n dX3_edgeToRight_0 rfl (i := 0) (x := i0) rfl (e_bipush dX3_edgeToRight_1 rfl (k4 rfl) (e_iand dX3_edgeToRight_3 k))) ?_
  refine ev_br2 (P := (b4and i0 16) = 0) (pct := 11) (pcf := 7) (st' := []) (fun _ _ _ kt kf => e_ifeq dX3_edgeToRight_4 (tgt := 11) rfl kt kf) (fun h1 => ?_) (fun h1 => ?_)
  · exact ev_ret (e_iconst dX3_edgeToRight_11 (k4 rfl) (e_iret dX3_edgeToRight_12))
  · exact ev_ret (e_iconst dX3_edgeToRight_7 (k4 rfl) (e_goto dX3_edgeToRight_8 (tgt := 12) rfl (e_iret dX3_edgeToRight_12)))
def f_X3_rowOf (i0 : Int) (R : xN) : Option (Int) :=
  some (w4 (Int.tdiv (b4and i0 15) 4))
set_option maxRecDepth 20000 in
set_option maxHeartbeats 4000000 in
theorem c_X3_rowOf {l : Launch} {g : xG} {d : Nat} {A : xA} {R : xN}  (i0 : Int) : Ev l g (d) mX3_rowOf 0 [xI i0] [] A R (fun v : Int => some (xI v)) (fun _ => R) (f_X3_rowOf i0 R) := by
  rw [f_X3_rowOf]
  exact ev_ret (e_iload_n dX3_rowOf_0 rfl (i := 0) (x := i0) rfl (e_bipush dX3_rowOf_1 rfl (k4 rfl) (e_iand dX3_rowOf_3 (e_iconst dX3_rowOf_4 (k4 rfl) (e_idiv dX3_rowOf_5 (by decide) (e_iret dX3_rowOf_6))))))
def f_X3_rowAt (a : Nat) (i0 : Int) (R : xN) : Option (Int) :=
  (f_X3_at a i0 R).bind (fun v1 =>
  (f_X3_rowOf v1 R).bind (fun v2 =>
  some v2))
set_option maxRecDepth 20000 in
set_option maxHeartbeats 4000000 in
theorem c_X3_rowAt {l : Launch} {g : xG} {d : Nat} {A : xA} {R : xN} {a : Nat} (h_a : sh 3 A a) (i0 : Int) : Ev l g (d + 1) mX3_rowAt 0 [xR a, xI i0] [] A R (fun v : Int => some (xI v)) (fun _ => R) (f_X3_rowAt a i0 R) := by
  rw [f_X3_rowAt]
  refine ev_st (pc' := 2) (L' := [xR a, xI i0]) (st' := [xI i0, xR a]) (fun _ _ _ k => e_aload_n dX3_rowAt_0 rfl (i := 0) (x := a) rfl (e_iload_n dX3_rowAt_1 rfl (i := 1) (x := i0) rfl k)) ?_
  refine ev_callV (As := [xI i0]) (st := []) (fun v1 => [xI v1]) dX3_rowAt_2 mlX3_55 (kd3_0 h_a) rfl rfl rfl rfl rfl rfl (c_X3_at (d := d) h_a i0) (fun _ => trivial) (fun _ => rfl) (fun v1 => ?_)
  refine ev_callS (As := [xI v1]) (st := []) (fun v2 => [xI v2]) dX3_rowAt_5 mlX3_79 rfl rfl rfl rfl rfl rfl (c_X3_rowOf (d := d) v1) (fun _ => trivial) (fun _ => rfl) (fun v2 => ?_)
  exact ev_ret (e_iret dX3_rowAt_8)
def f_X3_edgeBelow (i0 : Int) (R : xN) : Option (Int) :=
  xlet (if (b4and i0 32) = 0 then 3 else 2) (fun t1 =>
  some t1)
set_option maxRecDepth 20000 in
set_option maxHeartbeats 4000000 in
theorem c_X3_edgeBelow {l : Launch} {g : xG} {d : Nat} {A : xA} {R : xN}  (i0 : Int) : Ev l g (d) mX3_edgeBelow 0 [xI i0] [] A R (fun v : Int => some (xI v)) (fun _ => R) (f_X3_edgeBelow i0 R) := by
  rw [f_X3_edgeBelow]
  refine ev_st (pc' := 4) (L' := [xI i0]) (st' := [xI (b4and i0 32)]) (fun _ _ _ k => e_iload_n dX3_edgeBelow_0 rfl (i := 0) (x := i0) rfl (e_bipush dX3_edgeBelow_1 rfl (k4 rfl) (e_iand dX3_edgeBelow_3 k))) ?_
  refine ev_tern (P := (b4and i0 32) = 0) (a := 3) (b := 2) (pct := 11) (pcf := 7) (J := 12) (st' := []) (fun _ _ _ kt kf => e_ifeq dX3_edgeBelow_4 (tgt := 11) rfl kt kf) (fun _ _ _ k => e_iconst dX3_edgeBelow_11 (k4 rfl) k) (fun _ _ _ k => e_iconst dX3_edgeBelow_7 (k4 rfl) (e_goto dX3_edgeBelow_8 (tgt := 12) rfl k)) (fun t1 et1 => ?_)
  exact ev_ret (e_iret dX3_edgeBelow_12)
def lp_X3_pairsAlong_4 (a : Nat) (p1 : Int) (R : xN) : Nat → Int → Int → (Int → Int → Option (Int)) → Option (Int)
  | 0, _, _, _ => none
  | n + 1, y2, y3, X =>
    (f_X3_depth a R).bind (fun v1 =>
    if v1 ≤ y3 then
    X y2 y3
    else
    (f_X3_columnAt a y3 R).bind (fun v3 =>
    if (R a 1) ≤ (w4 (v3 + 1)) then
    (f_X3_rowAt a y3 R).bind (fun v5 =>
    if (R a 0) ≤ (w4 (v5 + 1)) then
    xlet (w4 (y3 + 1)) (fun x7 =>
    lp_X3_pairsAlong_4 a p1 R n y2 x7 X)
    else
    (f_X3_at a y3 R).bind (fun v8 =>
    (f_X3_edgeBelow v8 R).bind (fun v9 =>
    if v9 = p1 then
    xlet (w4 (y2 + 1)) (fun x11 =>
    xlet (w4 (y3 + 1)) (fun x12 =>
    lp_X3_pairsAlong_4 a p1 R n x11 x12 X))
    else
    xlet (w4 (y3 + 1)) (fun x13 =>
    lp_X3_pairsAlong_4 a p1 R n y2 x13 X))))
    else
    (f_X3_at a y3 R).bind (fun v14 =>
    (f_X3_edgeToRight v14 R).bind (fun v15 =>
    if v15 = p1 then
    xlet (w4 (y2 + 1)) (fun x17 =>
    (f_X3_rowAt a y3 R).bind (fun v18 =>
    if (R a 0) ≤ (w4 (v18 + 1)) then
    xlet (w4 (y3 + 1)) (fun x20 =>
    lp_X3_pairsAlong_4 a p1 R n x17 x20 X)
    else
    (f_X3_at a y3 R).bind (fun v21 =>
    (f_X3_edgeBelow v21 R).bind (fun v22 =>
    if v22 = p1 then
    xlet (w4 (x17 + 1)) (fun x24 =>
    xlet (w4 (y3 + 1)) (fun x25 =>
    lp_X3_pairsAlong_4 a p1 R n x24 x25 X))
    else
    xlet (w4 (y3 + 1)) (fun x26 =>
    lp_X3_pairsAlong_4 a p1 R n x17 x26 X)))))
    else
    (f_X3_rowAt a y3 R).bind (fun v27 =>
    if (R a 0) ≤ (w4 (v27 + 1)) then
    xlet (w4 (y3 + 1)) (fun x29 =>
    lp_X3_pairsAlong_4 a p1 R n y2 x29 X)
    else
    (f_X3_at a y3 R).bind (fun v30 =>
    (f_X3_edgeBelow v30 R).bind (fun v31 =>
    if v31 = p1 then
    xlet (w4 (y2 + 1)) (fun x33 =>
    xlet (w4 (y3 + 1)) (fun x34 =>
    lp_X3_pairsAlong_4 a p1 R n x33 x34 X))
    else
    xlet (w4 (y3 + 1)) (fun x35 =>
    lp_X3_pairsAlong_4 a p1 R n y2 x35 X))))))))
def f_X3_pairsAlong (a : Nat) (i0 : Int) (R : xN) : Option (Int) :=
  lp_X3_pairsAlong_4 a i0 R 6000 0 0 (fun z36 z37 =>
  some z36)
set_option maxRecDepth 20000 in
set_option maxHeartbeats 4000000 in
theorem lc_X3_pairsAlong_4 {l : Launch} {g : xG} {d : Nat} {A : xA} {a : Nat} (h_a : sh 3 A a) (p1 : Int) (R : xN) {X : Int → Int → Option (Int)} (hX : ∀ (y2 : Int) (y3 : Int), Ev l g (d + 2) mX3_pairsAlong 76 [xU, xU, xI y2, xU] [] A R (fun v : Int => some (xI v)) (fun _ => R) (X y2 y3)) (n : Nat) (y2 : Int) (y3 : Int) : Ev l g (d + 2) mX3_pairsAlong 4 [xR a, xI p1, xI y2, xI y3] [] A R (fun v : Int => some (xI v)) (fun _ => R) (lp_X3_pairsAlong_4 a p1 R n y2 y3 X) := by
  induction n generalizing y2 y3 with
  | zero => exact ev_none
  | succ n ih =>
    rw [lp_X3_pairsAlong_4]
    refine ev_st (pc' := 6) (L' := [xR a, xI p1, xI y2, xI y3]) (st' := [xR a, xI y3]) (fun _ _ _ k => e_iload_n dX3_pairsAlong_4 rfl (i := 3) (x := y3) rfl (e_aload_n dX3_pairsAlong_5 rfl (i := 0) (x := a) rfl k)) ?_
    refine ev_callV (As := []) (st := [xI y3]) (fun v1 => [xI v1, xI y3]) dX3_pairsAlong_6 mlX3_47 (kd3_0 h_a) rfl rfl rfl rfl rfl rfl (c_X3_depth (d := d + 1) h_a) (fun _ => trivial) (fun _ => rfl) (fun v1 => ?_)
    refine ev_br2 (P := v1 ≤ y3) (pct := 76) (pcf := 12) (st' := []) (fun _ _ _ kt kf => e_cge dX3_pairsAlong_9 (tgt := 76) rfl kt kf) (fun h2 => ?_) (fun h2 => ?_)
    · refine ev_st (pc' := 76) (L' := [xU, xU, xI y2, xU]) (st' := []) (fun _ _ _ k => e_fg [0, 1, 3] k) ?_
      exact hX y2 y3
    · refine ev_st (pc' := 14) (L' := [xR a, xI p1, xI y2, xI y3]) (st' := [xI y3, xR a]) (fun _ _ _ k => e_aload_n dX3_pairsAlong_12 rfl (i := 0) (x := a) rfl (e_iload_n dX3_pairsAlong_13 rfl (i := 3) (x := y3) rfl k)) ?_
      refine ev_callV (As := [xI y3]) (st := []) (fun v3 => [xI v3]) dX3_pairsAlong_14 mlX3_100 (kd3_0 h_a) rfl rfl rfl rfl rfl rfl (c_X3_columnAt (d := d) h_a y3) (fun _ => trivial) (fun _ => rfl) (fun v3 => ?_)
      refine ev_st (pc' := 23) (L' := [xR a, xI p1, xI y2, xI y3]) (st' := [xI (R a 1), xI (w4 (v3 + 1))]) (fun _ _ _ k => e_iconst dX3_pairsAlong_17 (k4 rfl) (e_iadd dX3_pairsAlong_18 (e_aload_n dX3_pairsAlong_19 rfl (i := 0) (x := a) rfl (e_geti dX3_pairsAlong_20 flX3_15 (kd3_0 h_a) (Or.inl rfl) k)))) ?_
      refine ev_br2 (P := (R a 1) ≤ (w4 (v3 + 1))) (pct := 41) (pcf := 26) (st' := []) (fun _ _ _ kt kf => e_cge dX3_pairsAlong_23 (tgt := 41) rfl kt kf) (fun h4 => ?_) (fun h4 => ?_)
      · refine ev_st (pc' := 43) (L' := [xR a, xI p1, xI y2, xI y3]) (st' := [xI y3, xR a]) (fun _ _ _ k => e_aload_n dX3_pairsAlong_41 rfl (i := 0) (x := a) rfl (e_iload_n dX3_pairsAlong_42 rfl (i := 3) (x := y3) rfl k)) ?_
        refine ev_callV (As := [xI y3]) (st := []) (fun v5 => [xI v5]) dX3_pairsAlong_43 mlX3_103 (kd3_0 h_a) rfl rfl rfl rfl rfl rfl (c_X3_rowAt (d := d) h_a y3) (fun _ => trivial) (fun _ => rfl) (fun v5 => ?_)
        refine ev_st (pc' := 52) (L' := [xR a, xI p1, xI y2, xI y3]) (st' := [xI (R a 0), xI (w4 (v5 + 1))]) (fun _ _ _ k => e_iconst dX3_pairsAlong_46 (k4 rfl) (e_iadd dX3_pairsAlong_47 (e_aload_n dX3_pairsAlong_48 rfl (i := 0) (x := a) rfl (e_geti dX3_pairsAlong_49 flX3_9 (kd3_0 h_a) (Or.inl rfl) k)))) ?_
        refine ev_br2 (P := (R a 0) ≤ (w4 (v5 + 1))) (pct := 70) (pcf := 55) (st' := []) (fun _ _ _ kt kf => e_cge dX3_pairsAlong_52 (tgt := 70) rfl kt kf) (fun h6 => ?_) (fun h6 => ?_)
        · refine ev_letx (fun x7 ex7 => ?_)
          refine ev_st (pc' := 73) (L' := [xR a, xI p1, xI y2, xI x7]) (st' := []) (fun _ _ _ k => e_iinc dX3_pairsAlong_70 (i := 3) rfl (x := y3) rfl (y := x7) ex7 (L' := [xR a, xI p1, xI y2, xI x7]) rfl k) ?_
          refine ev_st (pc' := 4) (L' := [xR a, xI p1, xI y2, xI x7]) (st' := []) (fun _ _ _ k => e_goto dX3_pairsAlong_73 (tgt := 4) rfl k) ?_
          exact ih y2 x7
        · refine ev_st (pc' := 57) (L' := [xR a, xI p1, xI y2, xI y3]) (st' := [xI y3, xR a]) (fun _ _ _ k => e_aload_n dX3_pairsAlong_55 rfl (i := 0) (x := a) rfl (e_iload_n dX3_pairsAlong_56 rfl (i := 3) (x := y3) rfl k)) ?_
          refine ev_callV (As := [xI y3]) (st := []) (fun v8 => [xI v8]) dX3_pairsAlong_57 mlX3_55 (kd3_0 h_a) rfl rfl rfl rfl rfl rfl (c_X3_at (d := d + 1) h_a y3) (fun _ => trivial) (fun _ => rfl) (fun v8 => ?_)
          refine ev_callS (As := [xI v8]) (st := []) (fun v9 => [xI v9]) dX3_pairsAlong_60 mlX3_97 rfl rfl rfl rfl rfl rfl (c_X3_edgeBelow (d := d + 1) v8) (fun _ => trivial) (fun _ => rfl) (fun v9 => ?_)
          refine ev_st (pc' := 64) (L' := [xR a, xI p1, xI y2, xI y3]) (st' := [xI p1, xI v9]) (fun _ _ _ k => e_iload_n dX3_pairsAlong_63 rfl (i := 1) (x := p1) rfl k) ?_
          refine ev_br2 (P := v9 = p1) (pct := 67) (pcf := 70) (st' := []) (fun _ _ _ kt kf => e_cne dX3_pairsAlong_64 (tgt := 70) rfl kt kf) (fun h10 => ?_) (fun h10 => ?_)
          · refine ev_letx (fun x11 ex11 => ?_)
            refine ev_st (pc' := 70) (L' := [xR a, xI p1, xI x11, xI y3]) (st' := []) (fun _ _ _ k => e_iinc dX3_pairsAlong_67 (i := 2) rfl (x := y2) rfl (y := x11) ex11 (L' := [xR a, xI p1, xI x11, xI y3]) rfl k) ?_
            refine ev_letx (fun x12 ex12 => ?_)
            refine ev_st (pc' := 73) (L' := [xR a, xI p1, xI x11, xI x12]) (st' := []) (fun _ _ _ k => e_iinc dX3_pairsAlong_70 (i := 3) rfl (x := y3) rfl (y := x12) ex12 (L' := [xR a, xI p1, xI x11, xI x12]) rfl k) ?_
            refine ev_st (pc' := 4) (L' := [xR a, xI p1, xI x11, xI x12]) (st' := []) (fun _ _ _ k => e_goto dX3_pairsAlong_73 (tgt := 4) rfl k) ?_
            exact ih x11 x12
          · refine ev_letx (fun x13 ex13 => ?_)
            refine ev_st (pc' := 73) (L' := [xR a, xI p1, xI y2, xI x13]) (st' := []) (fun _ _ _ k => e_iinc dX3_pairsAlong_70 (i := 3) rfl (x := y3) rfl (y := x13) ex13 (L' := [xR a, xI p1, xI y2, xI x13]) rfl k) ?_
            refine ev_st (pc' := 4) (L' := [xR a, xI p1, xI y2, xI x13]) (st' := []) (fun _ _ _ k => e_goto dX3_pairsAlong_73 (tgt := 4) rfl k) ?_
            exact ih y2 x13
      · refine ev_st (pc' := 28) (L' := [xR a, xI p1, xI y2, xI y3]) (st' := [xI y3, xR a]) (fun _ _ _ k => e_aload_n dX3_pairsAlong_26 rfl (i := 0) (x := a) rfl (e_iload_n dX3_pairsAlong_27 rfl (i := 3) (x := y3) rfl k)) ?_
        refine ev_callV (As := [xI y3]) (st := []) (fun v14 => [xI v14]) dX3_pairsAlong_28 mlX3_55 (kd3_0 h_a) rfl rfl rfl rfl rfl rfl (c_X3_at (d := d + 1) h_a y3) (fun _ => trivial) (fun _ => rfl) (fun v14 => ?_)
        refine ev_callS (As := [xI v14]) (st := []) (fun v15 => [xI v15]) dX3_pairsAlong_31 mlX3_94 rfl rfl rfl rfl rfl rfl (c_X3_edgeToRight (d := d + 1) v14) (fun _ => trivial) (fun _ => rfl) (fun v15 => ?_)
        refine ev_st (pc' := 35) (L' := [xR a, xI p1, xI y2, xI y3]) (st' := [xI p1, xI v15]) (fun _ _ _ k => e_iload_n dX3_pairsAlong_34 rfl (i := 1) (x := p1) rfl k) ?_
        refine ev_br2 (P := v15 = p1) (pct := 38) (pcf := 41) (st' := []) (fun _ _ _ kt kf => e_cne dX3_pairsAlong_35 (tgt := 41) rfl kt kf) (fun h16 => ?_) (fun h16 => ?_)
        · refine ev_letx (fun x17 ex17 => ?_)
          refine ev_st (pc' := 41) (L' := [xR a, xI p1, xI x17, xI y3]) (st' := []) (fun _ _ _ k => e_iinc dX3_pairsAlong_38 (i := 2) rfl (x := y2) rfl (y := x17) ex17 (L' := [xR a, xI p1, xI x17, xI y3]) rfl k) ?_
          refine ev_st (pc' := 43) (L' := [xR a, xI p1, xI x17, xI y3]) (st' := [xI y3, xR a]) (fun _ _ _ k => e_aload_n dX3_pairsAlong_41 rfl (i := 0) (x := a) rfl (e_iload_n dX3_pairsAlong_42 rfl (i := 3) (x := y3) rfl k)) ?_
          refine ev_callV (As := [xI y3]) (st := []) (fun v18 => [xI v18]) dX3_pairsAlong_43 mlX3_103 (kd3_0 h_a) rfl rfl rfl rfl rfl rfl (c_X3_rowAt (d := d) h_a y3) (fun _ => trivial) (fun _ => rfl) (fun v18 => ?_)
          refine ev_st (pc' := 52) (L' := [xR a, xI p1, xI x17, xI y3]) (st' := [xI (R a 0), xI (w4 (v18 + 1))]) (fun _ _ _ k => e_iconst dX3_pairsAlong_46 (k4 rfl) (e_iadd dX3_pairsAlong_47 (e_aload_n dX3_pairsAlong_48 rfl (i := 0) (x := a) rfl (e_geti dX3_pairsAlong_49 flX3_9 (kd3_0 h_a) (Or.inl rfl) k)))) ?_
          refine ev_br2 (P := (R a 0) ≤ (w4 (v18 + 1))) (pct := 70) (pcf := 55) (st' := []) (fun _ _ _ kt kf => e_cge dX3_pairsAlong_52 (tgt := 70) rfl kt kf) (fun h19 => ?_) (fun h19 => ?_)
          · refine ev_letx (fun x20 ex20 => ?_)
            refine ev_st (pc' := 73) (L' := [xR a, xI p1, xI x17, xI x20]) (st' := []) (fun _ _ _ k => e_iinc dX3_pairsAlong_70 (i := 3) rfl (x := y3) rfl (y := x20) ex20 (L' := [xR a, xI p1, xI x17, xI x20]) rfl k) ?_
            refine ev_st (pc' := 4) (L' := [xR a, xI p1, xI x17, xI x20]) (st' := []) (fun _ _ _ k => e_goto dX3_pairsAlong_73 (tgt := 4) rfl k) ?_
            exact ih x17 x20
          · refine ev_st (pc' := 57) (L' := [xR a, xI p1, xI x17, xI y3]) (st' := [xI y3, xR a]) (fun _ _ _ k => e_aload_n dX3_pairsAlong_55 rfl (i := 0) (x := a) rfl (e_iload_n dX3_pairsAlong_56 rfl (i := 3) (x := y3) rfl k)) ?_
            refine ev_callV (As := [xI y3]) (st := []) (fun v21 => [xI v21]) dX3_pairsAlong_57 mlX3_55 (kd3_0 h_a) rfl rfl rfl rfl rfl rfl (c_X3_at (d := d + 1) h_a y3) (fun _ => trivial) (fun _ => rfl) (fun v21 => ?_)
            refine ev_callS (As := [xI v21]) (st := []) (fun v22 => [xI v22]) dX3_pairsAlong_60 mlX3_97 rfl rfl rfl rfl rfl rfl (c_X3_edgeBelow (d := d + 1) v21) (fun _ => trivial) (fun _ => rfl) (fun v22 => ?_)
            refine ev_st (pc' := 64) (L' := [xR a, xI p1, xI x17, xI y3]) (st' := [xI p1, xI v22]) (fun _ _ _ k => e_iload_n dX3_pairsAlong_63 rfl (i := 1) (x := p1) rfl k) ?_
            refine ev_br2 (P := v22 = p1) (pct := 67) (pcf := 70) (st' := []) (fun _ _ _ kt kf => e_cne dX3_pairsAlong_64 (tgt := 70) rfl kt kf) (fun h23 => ?_) (fun h23 => ?_)
            · refine ev_letx (fun x24 ex24 => ?_)
              refine ev_st (pc' := 70) (L' := [xR a, xI p1, xI x24, xI y3]) (st' := []) (fun _ _ _ k => e_iinc dX3_pairsAlong_67 (i := 2) rfl (x := x17) rfl (y := x24) ex24 (L' := [xR a, xI p1, xI x24, xI y3]) rfl k) ?_
              refine ev_letx (fun x25 ex25 => ?_)
              refine ev_st (pc' := 73) (L' := [xR a, xI p1, xI x24, xI x25]) (st' := []) (fun _ _ _ k => e_iinc dX3_pairsAlong_70 (i := 3) rfl (x := y3) rfl (y := x25) ex25 (L' := [xR a, xI p1, xI x24, xI x25]) rfl k) ?_
              refine ev_st (pc' := 4) (L' := [xR a, xI p1, xI x24, xI x25]) (st' := []) (fun _ _ _ k => e_goto dX3_pairsAlong_73 (tgt := 4) rfl k) ?_
              exact ih x24 x25
            · refine ev_letx (fun x26 ex26 => ?_)
              refine ev_st (pc' := 73) (L' := [xR a, xI p1, xI x17, xI x26]) (st' := []) (fun _ _ _ k => e_iinc dX3_pairsAlong_70 (i := 3) rfl (x := y3) rfl (y := x26) ex26 (L' := [xR a, xI p1, xI x17, xI x26]) rfl k) ?_
              refine ev_st (pc' := 4) (L' := [xR a, xI p1, xI x17, xI x26]) (st' := []) (fun _ _ _ k => e_goto dX3_pairsAlong_73 (tgt := 4) rfl k) ?_
              exact ih x17 x26
        · refine ev_st (pc' := 43) (L' := [xR a, xI p1, xI y2, xI y3]) (st' := [xI y3, xR a]) (fun _ _ _ k => e_aload_n dX3_pairsAlong_41 rfl (i := 0) (x := a) rfl (e_iload_n dX3_pairsAlong_42 rfl (i := 3) (x := y3) rfl k)) ?_
          refine ev_callV (As := [xI y3]) (st := []) (fun v27 => [xI v27]) dX3_pairsAlong_43 mlX3_103 (kd3_0 h_a) rfl rfl rfl rfl rfl rfl (c_X3_rowAt (d := d) h_a y3) (fun _ => trivial) (fun _ => rfl) (fun v27 => ?_)
          refine ev_st (pc' := 52) (L' := [xR a, xI p1, xI y2, xI y3]) (st' := [xI (R a 0), xI (w4 (v27 + 1))]) (fun _ _ _ k => e_iconst dX3_pairsAlong_46 (k4 rfl) (e_iadd dX3_pairsAlong_47 (e_aload_n dX3_pairsAlong_48 rfl (i := 0) (x := a) rfl (e_geti dX3_pairsAlong_49 flX3_9 (kd3_0 h_a) (Or.inl rfl) k)))) ?_
          refine ev_br2 (P := (R a 0) ≤ (w4 (v27 + 1))) (pct := 70) (pcf := 55) (st' := []) (fun _ _ _ kt kf => e_cge dX3_pairsAlong_52 (tgt := 70) rfl kt kf) (fun h28 => ?_) (fun h28 => ?_)
          · refine ev_letx (fun x29 ex29 => ?_)
            refine ev_st (pc' := 73) (L' := [xR a, xI p1, xI y2, xI x29]) (st' := []) (fun _ _ _ k => e_iinc dX3_pairsAlong_70 (i := 3) rfl (x := y3) rfl (y := x29) ex29 (L' := [xR a, xI p1, xI y2, xI x29]) rfl k) ?_
            refine ev_st (pc' := 4) (L' := [xR a, xI p1, xI y2, xI x29]) (st' := []) (fun _ _ _ k => e_goto dX3_pairsAlong_73 (tgt := 4) rfl k) ?_
            exact ih y2 x29
          · refine ev_st (pc' := 57) (L' := [xR a, xI p1, xI y2, xI y3]) (st' := [xI y3, xR a]) (fun _ _ _ k => e_aload_n dX3_pairsAlong_55 rfl (i := 0) (x := a) rfl (e_iload_n dX3_pairsAlong_56 rfl (i := 3) (x := y3) rfl k)) ?_
            refine ev_callV (As := [xI y3]) (st := []) (fun v30 => [xI v30]) dX3_pairsAlong_57 mlX3_55 (kd3_0 h_a) rfl rfl rfl rfl rfl rfl (c_X3_at (d := d + 1) h_a y3) (fun _ => trivial) (fun _ => rfl) (fun v30 => ?_)
            refine ev_callS (As := [xI v30]) (st := []) (fun v31 => [xI v31]) dX3_pairsAlong_60 mlX3_97 rfl rfl rfl rfl rfl rfl (c_X3_edgeBelow (d := d + 1) v30) (fun _ => trivial) (fun _ => rfl) (fun v31 => ?_)
            refine ev_st (pc' := 64) (L' := [xR a, xI p1, xI y2, xI y3]) (st' := [xI p1, xI v31]) (fun _ _ _ k => e_iload_n dX3_pairsAlong_63 rfl (i := 1) (x := p1) rfl k) ?_
            refine ev_br2 (P := v31 = p1) (pct := 67) (pcf := 70) (st' := []) (fun _ _ _ kt kf => e_cne dX3_pairsAlong_64 (tgt := 70) rfl kt kf) (fun h32 => ?_) (fun h32 => ?_)
            · refine ev_letx (fun x33 ex33 => ?_)
              refine ev_st (pc' := 70) (L' := [xR a, xI p1, xI x33, xI y3]) (st' := []) (fun _ _ _ k => e_iinc dX3_pairsAlong_67 (i := 2) rfl (x := y2) rfl (y := x33) ex33 (L' := [xR a, xI p1, xI x33, xI y3]) rfl k) ?_
              refine ev_letx (fun x34 ex34 => ?_)
              refine ev_st (pc' := 73) (L' := [xR a, xI p1, xI x33, xI x34]) (st' := []) (fun _ _ _ k => e_iinc dX3_pairsAlong_70 (i := 3) rfl (x := y3) rfl (y := x34) ex34 (L' := [xR a, xI p1, xI x33, xI x34]) rfl k) ?_
              refine ev_st (pc' := 4) (L' := [xR a, xI p1, xI x33, xI x34]) (st' := []) (fun _ _ _ k => e_goto dX3_pairsAlong_73 (tgt := 4) rfl k) ?_
              exact ih x33 x34
            · refine ev_letx (fun x35 ex35 => ?_)
              refine ev_st (pc' := 73) (L' := [xR a, xI p1, xI y2, xI x35]) (st' := []) (fun _ _ _ k => e_iinc dX3_pairsAlong_70 (i := 3) rfl (x := y3) rfl (y := x35) ex35 (L' := [xR a, xI p1, xI y2, xI x35]) rfl k) ?_
              refine ev_st (pc' := 4) (L' := [xR a, xI p1, xI y2, xI x35]) (st' := []) (fun _ _ _ k => e_goto dX3_pairsAlong_73 (tgt := 4) rfl k) ?_
              exact ih y2 x35
set_option maxRecDepth 20000 in
set_option maxHeartbeats 4000000 in
theorem c_X3_pairsAlong {l : Launch} {g : xG} {d : Nat} {A : xA} {R : xN} {a : Nat} (h_a : sh 3 A a) (i0 : Int) : Ev l g (d + 2) mX3_pairsAlong 0 [xR a, xI i0, xU, xU] [] A R (fun v : Int => some (xI v)) (fun _ => R) (f_X3_pairsAlong a i0 R) := by
  rw [f_X3_pairsAlong]
  refine ev_st (pc' := 4) (L' := [xR a, xI i0, xI 0, xI 0]) (st' := []) (fun _ _ _ k => e_iconst dX3_pairsAlong_0 (k4 rfl) (e_istore_n dX3_pairsAlong_1 rfl (i := 2) rfl (L' := [xR a, xI i0, xI 0, xU]) rfl (e_iconst dX3_pairsAlong_2 (k4 rfl) (e_istore_n dX3_pairsAlong_3 rfl (i := 3) rfl (L' := [xR a, xI i0, xI 0, xI 0]) rfl k)))) ?_
  refine lc_X3_pairsAlong_4 h_a i0 R (fun z36 z37 => ?_) 6000 0 0
  exact ev_ret (e_iload_n dX3_pairsAlong_76 rfl (i := 2) (x := z36) rfl (e_iret dX3_pairsAlong_77))
def f_X0_cutAlong (a : Nat) (i0 : Int) (R : xN) : Option (Int × xN) :=
  (f_X9_isIn i0 0 3 R).bind (fun v1 =>
  if v1 = true then
  (f_X3_isBooklet (a + 4) R).bind (fun v3 =>
  if v3 = true then
  (f_X9_isInSet i0 (R a 6) R).bind (fun v5 =>
  if v5 = true then
  some ((-2), R)
  else
  xlet (xup R a 6 (b4or (R a 6) (b4shl 1 i0))) (fun R7 =>
  (f_X3_depth (a + 4) R7).bind (fun v8 =>
  xlet (xup R7 (a + 13) 2 (w4 ((R7 (a + 13) 2) + v8))) (fun R9 =>
  (f_X3_pairsAlong (a + 4) i0 R9).bind (fun v10 =>
  some (v10, R9))))))
  else
  some ((-2), R))
  else
  some ((-1), R))
set_option maxRecDepth 20000 in
set_option maxHeartbeats 4000000 in
theorem c_X0_cutAlong {l : Launch} {g : xG} {d : Nat} {A : xA} {R : xN} {a : Nat} (h_a : sh 0 A a) (i0 : Int) : Ev l g (d + 3) mX0_cutAlong 0 [xR a, xI i0] [] A R (fun v : Int × xN => some (xI v.1)) (fun v => v.2) (f_X0_cutAlong a i0 R) := by
  rw [f_X0_cutAlong]
  refine ev_st (pc' := 3) (L' := [xR a, xI i0]) (st' := [xI 3, xI 0, xI i0]) (fun _ _ _ k => e_iload_n dX0_cutAlong_0 rfl (i := 1) (x := i0) rfl (e_iconst dX0_cutAlong_1 (k4 rfl) (e_iconst dX0_cutAlong_2 (k4 rfl) k))) ?_
  refine ev_callN (As := [xI i0, xI 0, xI 3]) (st := []) (fun v1 => [xI (xz v1)]) dX0_cutAlong_3 mlX0_92 rfl rfl rfl rfl rfl rfl (c_X9_isIn (d := d + 2) i0 0 3) (fun _ => xz01 _) (fun _ => rfl) (fun v1 => ?_)
  refine ev_br2 (P := v1 = true) (pct := 11) (pcf := 9) (st' := []) (fun _ _ _ kt kf => e_ifnez dX0_cutAlong_6 (tgt := 11) rfl kt kf) (fun h2 => ?_) (fun h2 => ?_)
  · refine ev_st (pc' := 15) (L' := [xR a, xI i0]) (st' := [xR (a + 4)]) (fun _ _ _ k => e_aload_n dX0_cutAlong_11 rfl (i := 0) (x := a) rfl (e_getr dX0_cutAlong_12 flX0_21 (kd0_0 h_a) rfl (rf0_0_1 h_a) k)) ?_
    refine ev_callV (As := []) (st := []) (fun v3 => [xI (xz v3)]) dX0_cutAlong_15 mlX0_157 (kd0_4 h_a) rfl rfl rfl rfl rfl rfl (c_X3_isBooklet (d := d + 2) (sb0_4_3 h_a)) (fun _ => xz01 _) (fun _ => rfl) (fun v3 => ?_)
    refine ev_br2 (P := v3 = true) (pct := 21) (pcf := 32) (st' := []) (fun _ _ _ kt kf => e_ifeqz dX0_cutAlong_18 (tgt := 32) rfl kt kf) (fun h4 => ?_) (fun h4 => ?_)
    · refine ev_st (pc' := 26) (L' := [xR a, xI i0]) (st' := [xI (R a 6), xI i0]) (fun _ _ _ k => e_iload_n dX0_cutAlong_21 rfl (i := 1) (x := i0) rfl (e_aload_n dX0_cutAlong_22 rfl (i := 0) (x := a) rfl (e_geti dX0_cutAlong_23 flX0_47 (kd0_0 h_a) (Or.inl rfl) k))) ?_
      refine ev_callN (As := [xI i0, xI (R a 6)]) (st := []) (fun v5 => [xI (xz v5)]) dX0_cutAlong_26 mlX0_160 rfl rfl rfl rfl rfl rfl (c_X9_isInSet (d := d + 2) i0 (R a 6)) (fun _ => xz01 _) (fun _ => rfl) (fun v5 => ?_)
      refine ev_br2 (P := v5 = true) (pct := 32) (pcf := 35) (st' := []) (fun _ _ _ kt kf => e_ifeqz dX0_cutAlong_29 (tgt := 35) rfl kt kf) (fun h6 => ?_) (fun h6 => ?_)
      · exact ev_ret (e_bipush dX0_cutAlong_32 rfl (k4 rfl) (e_iret dX0_cutAlong_34))
      · refine ev_st (pc' := 47) (L' := [xR a, xI i0]) (st' := []) (fun _ _ _ k => e_aload_n dX0_cutAlong_35 rfl (i := 0) (x := a) rfl (e_dupR dX0_cutAlong_36 (e_geti dX0_cutAlong_37 flX0_47 (kd0_0 h_a) (Or.inl rfl) (e_iconst dX0_cutAlong_40 (k4 rfl) (e_iload_n dX0_cutAlong_41 rfl (i := 1) (x := i0) rfl (e_ishl dX0_cutAlong_42 (e_ior dX0_cutAlong_43 (e_puti dX0_cutAlong_44 flX0_47 (kd0_0 h_a) (Or.inl rfl) rfl k)))))))) ?_
        refine ev_letR (fun R7 eR7 => ?_)
        refine ev_st (pc' := 58) (L' := [xR a, xI i0]) (st' := [xR (a + 4), xI (R7 (a + 13) 2), xI 2, xR (a + 13)]) (fun _ _ _ k => e_aload_n dX0_cutAlong_47 rfl (i := 0) (x := a) rfl (e_getr dX0_cutAlong_48 flX0_39 (kd0_0 h_a) rfl (rf0_0_4 h_a) (e_iconst dX0_cutAlong_51 (k4 rfl) (e_dup2 dX0_cutAlong_52 (e_iald dX0_cutAlong_53 (kd0_13 h_a) (by decide) (by decide) (e_aload_n dX0_cutAlong_54 rfl (i := 0) (x := a) rfl (e_getr dX0_cutAlong_55 flX0_21 (kd0_0 h_a) rfl (rf0_0_1 h_a) k))))))) ?_
        refine ev_callV (As := []) (st := [xI (R7 (a + 13) 2), xI 2, xR (a + 13)]) (fun v8 => [xI v8, xI (R7 (a + 13) 2), xI 2, xR (a + 13)]) dX0_cutAlong_58 mlX0_107 (kd0_4 h_a) rfl rfl rfl rfl rfl rfl (c_X3_depth (d := d + 2) (sb0_4_3 h_a)) (fun _ => trivial) (fun _ => rfl) (fun v8 => ?_)
        refine ev_st (pc' := 63) (L' := [xR a, xI i0]) (st' := []) (fun _ _ _ k => e_iadd dX0_cutAlong_61 (e_iast dX0_cutAlong_62 (kd0_13 h_a) (by decide) (by decide) k)) ?_
        refine ev_letR (fun R9 eR9 => ?_)
        refine ev_st (pc' := 68) (L' := [xR a, xI i0]) (st' := [xI i0, xR (a + 4)]) (fun _ _ _ k => e_aload_n dX0_cutAlong_63 rfl (i := 0) (x := a) rfl (e_getr dX0_cutAlong_64 flX0_21 (kd0_0 h_a) rfl (rf0_0_1 h_a) (e_iload_n dX0_cutAlong_67 rfl (i := 1) (x := i0) rfl k))) ?_
        refine ev_callV (As := [xI i0]) (st := []) (fun v10 => [xI v10]) dX0_cutAlong_68 mlX0_164 (kd0_4 h_a) rfl rfl rfl rfl rfl rfl (c_X3_pairsAlong (d := d) (sb0_4_3 h_a) i0) (fun _ => trivial) (fun _ => rfl) (fun v10 => ?_)
        exact ev_ret (e_iret dX0_cutAlong_71)
    · exact ev_ret (e_bipush dX0_cutAlong_32 rfl (k4 rfl) (e_iret dX0_cutAlong_34))
  · exact ev_ret (e_iconst dX0_cutAlong_9 (k4 rfl) (e_iret dX0_cutAlong_10))
def f_J6_bitCount_0f7a4 (i0 : Int) (R : xN) : Option (Int) :=
  xlet (w4 (i0 - (b4and (b4ushr i0 1) 1431655765))) (fun x1 =>
  xlet (w4 ((b4and x1 858993459) + (b4and (b4ushr x1 2) 858993459))) (fun x2 =>
  xlet (b4and (w4 (x2 + (b4ushr x2 4))) 252645135) (fun x3 =>
  xlet (w4 (x3 + (b4ushr x3 8))) (fun x4 =>
  xlet (w4 (x4 + (b4ushr x4 16))) (fun x5 =>
  some (b4and x5 63))))))
set_option maxRecDepth 20000 in
set_option maxHeartbeats 4000000 in
theorem c_J6_bitCount_0f7a4 {l : Launch} {g : xG} {d : Nat} {A : xA} {R : xN}  (i0 : Int) : Ev l g (d) mJ6_bitCount_0f7a4 0 [xI i0] [] A R (fun v : Int => some (xI v)) (fun _ => R) (f_J6_bitCount_0f7a4 i0 R) := by
  rw [f_J6_bitCount_0f7a4]
  refine ev_st (pc' := 9) (L' := [xI i0]) (st' := [xI (w4 (i0 - (b4and (b4ushr i0 1) 1431655765)))]) (fun _ _ _ k => e_iload_n dJ6_bitCount_0f7a4_0 rfl (i := 0) (x := i0) rfl (e_iload_n dJ6_bitCount_0f7a4_1 rfl (i := 0) (x := i0) rfl (e_iconst dJ6_bitCount_0f7a4_2 (k4 rfl) (e_iushr dJ6_bitCount_0f7a4_3 (e_ldcw dJ6_bitCount_0f7a4_4 ckJ6_265 (k4 rfl) (e_iand dJ6_bitCount_0f7a4_7 (e_isub dJ6_bitCount_0f7a4_8 k))))))) ?_
  refine ev_leti (fun x1 ex1 => ?_)
  refine ev_st (pc' := 10) (L' := [xI x1]) (st' := []) (fun _ _ _ k => e_istore_n dJ6_bitCount_0f7a4_9 rfl (i := 0) rfl (L' := [xI x1]) rfl k) ?_
  refine ev_st (pc' := 23) (L' := [xI x1]) (st' := [xI (w4 ((b4and x1 858993459) + (b4and (b4ushr x1 2) 858993459)))]) (fun _ _ _ k => e_iload_n dJ6_bitCount_0f7a4_10 rfl (i := 0) (x := x1) rfl (e_ldcw dJ6_bitCount_0f7a4_11 ckJ6_266 (k4 rfl) (e_iand dJ6_bitCount_0f7a4_14 (e_iload_n dJ6_bitCount_0f7a4_15 rfl (i := 0) (x := x1) rfl (e_iconst dJ6_bitCount_0f7a4_16 (k4 rfl) (e_iushr dJ6_bitCount_0f7a4_17 (e_ldcw dJ6_bitCount_0f7a4_18 ckJ6_266 (k4 rfl) (e_iand dJ6_bitCount_0f7a4_21 (e_iadd dJ6_bitCount_0f7a4_22 k))))))))) ?_
  refine ev_leti (fun x2 ex2 => ?_)
  refine ev_st (pc' := 24) (L' := [xI x2]) (st' := []) (fun _ _ _ k => e_istore_n dJ6_bitCount_0f7a4_23 rfl (i := 0) rfl (L' := [xI x2]) rfl k) ?_
  refine ev_st (pc' := 33) (L' := [xI x2]) (st' := [xI (b4and (w4 (x2 + (b4ushr x2 4))) 252645135)]) (fun _ _ _ k => e_iload_n dJ6_bitCount_0f7a4_24 rfl (i := 0) (x := x2) rfl (e_iload_n dJ6_bitCount_0f7a4_25 rfl (i := 0) (x := x2) rfl (e_iconst dJ6_bitCount_0f7a4_26 (k4 rfl) (e_iushr dJ6_bitCount_0f7a4_27 (e_iadd dJ6_bitCount_0f7a4_28 (e_ldcw dJ6_bitCount_0f7a4_29 ckJ6_267 (k4 rfl) (e_iand dJ6_bitCount_0f7a4_32 k))))))) ?_
  refine ev_leti (fun x3 ex3 => ?_)
  refine ev_st (pc' := 34) (L' := [xI x3]) (st' := []) (fun _ _ _ k => e_istore_n dJ6_bitCount_0f7a4_33 rfl (i := 0) rfl (L' := [xI x3]) rfl k) ?_
  refine ev_st (pc' := 40) (L' := [xI x3]) (st' := [xI (w4 (x3 + (b4ushr x3 8)))]) (fun _ _ _ k => e_iload_n dJ6_bitCount_0f7a4_34 rfl (i := 0) (x := x3) rfl (e_iload_n dJ6_bitCount_0f7a4_35 rfl (i := 0) (x := x3) rfl (e_bipush dJ6_bitCount_0f7a4_36 rfl (k4 rfl) (e_iushr dJ6_bitCount_0f7a4_38 (e_iadd dJ6_bitCount_0f7a4_39 k))))) ?_
  refine ev_leti (fun x4 ex4 => ?_)
  refine ev_st (pc' := 41) (L' := [xI x4]) (st' := []) (fun _ _ _ k => e_istore_n dJ6_bitCount_0f7a4_40 rfl (i := 0) rfl (L' := [xI x4]) rfl k) ?_
  refine ev_st (pc' := 47) (L' := [xI x4]) (st' := [xI (w4 (x4 + (b4ushr x4 16)))]) (fun _ _ _ k => e_iload_n dJ6_bitCount_0f7a4_41 rfl (i := 0) (x := x4) rfl (e_iload_n dJ6_bitCount_0f7a4_42 rfl (i := 0) (x := x4) rfl (e_bipush dJ6_bitCount_0f7a4_43 rfl (k4 rfl) (e_iushr dJ6_bitCount_0f7a4_45 (e_iadd dJ6_bitCount_0f7a4_46 k))))) ?_
  refine ev_leti (fun x5 ex5 => ?_)
  refine ev_st (pc' := 48) (L' := [xI x5]) (st' := []) (fun _ _ _ k => e_istore_n dJ6_bitCount_0f7a4_47 rfl (i := 0) rfl (L' := [xI x5]) rfl k) ?_
  exact ev_ret (e_iload_n dJ6_bitCount_0f7a4_48 rfl (i := 0) (x := x5) rfl (e_bipush dJ6_bitCount_0f7a4_49 rfl (k4 rfl) (e_iand dJ6_bitCount_0f7a4_51 (e_iret dJ6_bitCount_0f7a4_52))))
def f_X0_setStaple (a : Nat) (i0 : Int) (R : xN) : Option (Int × xN) :=
  (f_X9_isIn i0 0 9 R).bind (fun v1 =>
  if v1 = true then
  (f_X3_isBooklet (a + 4) R).bind (fun v3 =>
  if v3 = true then
  (f_X9_isInSet i0 (R a 7) R).bind (fun v5 =>
  if v5 = true then
  some ((-2), R)
  else
  (f_J6_bitCount_0f7a4 (R a 7) R).bind (fun v7 =>
  if v7 < 3 then
  xlet (xup R a 7 (b4or (R a 7) (b4shl 1 i0))) (fun R9 =>
  xlet (xup R9 (a + 13) 3 (w4 ((R9 (a + 13) 3) + 3))) (fun R10 =>
  (f_X3_depth (a + 4) R10).bind (fun v11 =>
  some ((if v11 < (R10 a 8) then v11 else (R10 a 8)), R10))))
  else
  some ((-3), R)))
  else
  some ((-2), R))
  else
  some ((-1), R))
set_option maxRecDepth 20000 in
set_option maxHeartbeats 4000000 in
theorem c_X0_setStaple {l : Launch} {g : xG} {d : Nat} {A : xA} {R : xN} {a : Nat} (h_a : sh 0 A a) (i0 : Int) : Ev l g (d + 1) mX0_setStaple 0 [xR a, xI i0] [] A R (fun v : Int × xN => some (xI v.1)) (fun v => v.2) (f_X0_setStaple a i0 R) := by
  rw [f_X0_setStaple]
  refine ev_st (pc' := 4) (L' := [xR a, xI i0]) (st' := [xI 9, xI 0, xI i0]) (fun _ _ _ k => e_iload_n dX0_setStaple_0 rfl (i := 1) (x := i0) rfl (e_iconst dX0_setStaple_1 (k4 rfl) (e_bipush dX0_setStaple_2 rfl (k4 rfl) k))) ?_
  refine ev_callN (As := [xI i0, xI 0, xI 9]) (st := []) (fun v1 => [xI (xz v1)]) dX0_setStaple_4 mlX0_92 rfl rfl rfl rfl rfl rfl (c_X9_isIn (d := d) i0 0 9) (fun _ => xz01 _) (fun _ => rfl) (fun v1 => ?_)
  refine ev_br2 (P := v1 = true) (pct := 12) (pcf := 10) (st' := []) (fun _ _ _ kt kf => e_ifnez dX0_setStaple_7 (tgt := 12) rfl kt kf) (fun h2 => ?_) (fun h2 => ?_)
  · refine ev_st (pc' := 16) (L' := [xR a, xI i0]) (st' := [xR (a + 4)]) (fun _ _ _ k => e_aload_n dX0_setStaple_12 rfl (i := 0) (x := a) rfl (e_getr dX0_setStaple_13 flX0_21 (kd0_0 h_a) rfl (rf0_0_1 h_a) k)) ?_
    refine ev_callV (As := []) (st := []) (fun v3 => [xI (xz v3)]) dX0_setStaple_16 mlX0_157 (kd0_4 h_a) rfl rfl rfl rfl rfl rfl (c_X3_isBooklet (d := d) (sb0_4_3 h_a)) (fun _ => xz01 _) (fun _ => rfl) (fun v3 => ?_)
    refine ev_br2 (P := v3 = true) (pct := 22) (pcf := 33) (st' := []) (fun _ _ _ kt kf => e_ifeqz dX0_setStaple_19 (tgt := 33) rfl kt kf) (fun h4 => ?_) (fun h4 => ?_)
    · refine ev_st (pc' := 27) (L' := [xR a, xI i0]) (st' := [xI (R a 7), xI i0]) (fun _ _ _ k => e_iload_n dX0_setStaple_22 rfl (i := 1) (x := i0) rfl (e_aload_n dX0_setStaple_23 rfl (i := 0) (x := a) rfl (e_geti dX0_setStaple_24 flX0_50 (kd0_0 h_a) (Or.inl rfl) k))) ?_
      refine ev_callN (As := [xI i0, xI (R a 7)]) (st := []) (fun v5 => [xI (xz v5)]) dX0_setStaple_27 mlX0_160 rfl rfl rfl rfl rfl rfl (c_X9_isInSet (d := d) i0 (R a 7)) (fun _ => xz01 _) (fun _ => rfl) (fun v5 => ?_)
      refine ev_br2 (P := v5 = true) (pct := 33) (pcf := 36) (st' := []) (fun _ _ _ kt kf => e_ifeqz dX0_setStaple_30 (tgt := 36) rfl kt kf) (fun h6 => ?_) (fun h6 => ?_)
      · exact ev_ret (e_bipush dX0_setStaple_33 rfl (k4 rfl) (e_iret dX0_setStaple_35))
      · refine ev_st (pc' := 40) (L' := [xR a, xI i0]) (st' := [xI (R a 7)]) (fun _ _ _ k => e_aload_n dX0_setStaple_36 rfl (i := 0) (x := a) rfl (e_geti dX0_setStaple_37 flX0_50 (kd0_0 h_a) (Or.inl rfl) k)) ?_
        refine ev_callS (As := [xI (R a 7)]) (st := []) (fun v7 => [xI v7]) dX0_setStaple_40 mlX0_167 rfl rfl rfl rfl rfl rfl (c_J6_bitCount_0f7a4 (d := d) (R a 7)) (fun _ => trivial) (fun _ => rfl) (fun v7 => ?_)
        refine ev_st (pc' := 44) (L' := [xR a, xI i0]) (st' := [xI 3, xI v7]) (fun _ _ _ k => e_iconst dX0_setStaple_43 (k4 rfl) k) ?_
        refine ev_br2 (P := v7 < 3) (pct := 50) (pcf := 47) (st' := []) (fun _ _ _ kt kf => e_clt dX0_setStaple_44 (tgt := 50) rfl kt kf) (fun h8 => ?_) (fun h8 => ?_)
        · refine ev_st (pc' := 62) (L' := [xR a, xI i0]) (st' := []) (fun _ _ _ k => e_aload_n dX0_setStaple_50 rfl (i := 0) (x := a) rfl (e_dupR dX0_setStaple_51 (e_geti dX0_setStaple_52 flX0_50 (kd0_0 h_a) (Or.inl rfl) (e_iconst dX0_setStaple_55 (k4 rfl) (e_iload_n dX0_setStaple_56 rfl (i := 1) (x := i0) rfl (e_ishl dX0_setStaple_57 (e_ior dX0_setStaple_58 (e_puti dX0_setStaple_59 flX0_50 (kd0_0 h_a) (Or.inl rfl) rfl k)))))))) ?_
          refine ev_letR (fun R9 eR9 => ?_)
          refine ev_st (pc' := 72) (L' := [xR a, xI i0]) (st' := []) (fun _ _ _ k => e_aload_n dX0_setStaple_62 rfl (i := 0) (x := a) rfl (e_getr dX0_setStaple_63 flX0_39 (kd0_0 h_a) rfl (rf0_0_4 h_a) (e_iconst dX0_setStaple_66 (k4 rfl) (e_dup2 dX0_setStaple_67 (e_iald dX0_setStaple_68 (kd0_13 h_a) (by decide) (by decide) (e_iconst dX0_setStaple_69 (k4 rfl) (e_iadd dX0_setStaple_70 (e_iast dX0_setStaple_71 (kd0_13 h_a) (by decide) (by decide) k)))))))) ?_
          refine ev_letR (fun R10 eR10 => ?_)
          refine ev_st (pc' := 80) (L' := [xR a, xI i0]) (st' := [xR (a + 4), xI (R10 a 8)]) (fun _ _ _ k => e_aload_n dX0_setStaple_72 rfl (i := 0) (x := a) rfl (e_geti dX0_setStaple_73 flX0_53 (kd0_0 h_a) (Or.inl rfl) (e_aload_n dX0_setStaple_76 rfl (i := 0) (x := a) rfl (e_getr dX0_setStaple_77 flX0_21 (kd0_0 h_a) rfl (rf0_0_1 h_a) k)))) ?_
          refine ev_callV (As := []) (st := [xI (R10 a 8)]) (fun v11 => [xI v11, xI (R10 a 8)]) dX0_setStaple_80 mlX0_107 (kd0_4 h_a) rfl rfl rfl rfl rfl rfl (c_X3_depth (d := d) (sb0_4_3 h_a)) (fun _ => trivial) (fun _ => rfl) (fun v11 => ?_)
          exact ev_ret (e_min dX0_setStaple_83 cw_827 cw_673 cw_14 cw_674 rfl (e_iret dX0_setStaple_86))
        · exact ev_ret (e_bipush dX0_setStaple_47 rfl (k4 rfl) (e_iret dX0_setStaple_49))
    · exact ev_ret (e_bipush dX0_setStaple_33 rfl (k4 rfl) (e_iret dX0_setStaple_35))
  · exact ev_ret (e_iconst dX0_setStaple_10 (k4 rfl) (e_iret dX0_setStaple_11))
def f_X0_drawStaple (a : Nat) (i0 : Int) (R : xN) : Option (Int × xN) :=
  (f_X9_isIn i0 0 9 R).bind (fun v1 =>
  if v1 = true then
  (f_X9_isInSet i0 (R a 7) R).bind (fun v3 =>
  if v3 = true then
  xlet (xup R a 7 (b4and (R a 7) (b4xor (b4shl 1 i0) (-1)))) (fun R5 =>
  xlet (xup R5 (a + 13) 3 (w4 ((R5 (a + 13) 3) + 1))) (fun R6 =>
  (f_J6_bitCount_0f7a4 (R6 a 7) R6).bind (fun v7 =>
  some (v7, R6))))
  else
  some ((-2), R))
  else
  some ((-1), R))
set_option maxRecDepth 20000 in
set_option maxHeartbeats 4000000 in
theorem c_X0_drawStaple {l : Launch} {g : xG} {d : Nat} {A : xA} {R : xN} {a : Nat} (h_a : sh 0 A a) (i0 : Int) : Ev l g (d + 1) mX0_drawStaple 0 [xR a, xI i0] [] A R (fun v : Int × xN => some (xI v.1)) (fun v => v.2) (f_X0_drawStaple a i0 R) := by
  rw [f_X0_drawStaple]
  refine ev_st (pc' := 4) (L' := [xR a, xI i0]) (st' := [xI 9, xI 0, xI i0]) (fun _ _ _ k => e_iload_n dX0_drawStaple_0 rfl (i := 1) (x := i0) rfl (e_iconst dX0_drawStaple_1 (k4 rfl) (e_bipush dX0_drawStaple_2 rfl (k4 rfl) k))) ?_
  refine ev_callN (As := [xI i0, xI 0, xI 9]) (st := []) (fun v1 => [xI (xz v1)]) dX0_drawStaple_4 mlX0_92 rfl rfl rfl rfl rfl rfl (c_X9_isIn (d := d) i0 0 9) (fun _ => xz01 _) (fun _ => rfl) (fun v1 => ?_)
  refine ev_br2 (P := v1 = true) (pct := 12) (pcf := 10) (st' := []) (fun _ _ _ kt kf => e_ifnez dX0_drawStaple_7 (tgt := 12) rfl kt kf) (fun h2 => ?_) (fun h2 => ?_)
  · refine ev_st (pc' := 17) (L' := [xR a, xI i0]) (st' := [xI (R a 7), xI i0]) (fun _ _ _ k => e_iload_n dX0_drawStaple_12 rfl (i := 1) (x := i0) rfl (e_aload_n dX0_drawStaple_13 rfl (i := 0) (x := a) rfl (e_geti dX0_drawStaple_14 flX0_50 (kd0_0 h_a) (Or.inl rfl) k))) ?_
    refine ev_callN (As := [xI i0, xI (R a 7)]) (st := []) (fun v3 => [xI (xz v3)]) dX0_drawStaple_17 mlX0_160 rfl rfl rfl rfl rfl rfl (c_X9_isInSet (d := d) i0 (R a 7)) (fun _ => xz01 _) (fun _ => rfl) (fun v3 => ?_)
    refine ev_br2 (P := v3 = true) (pct := 26) (pcf := 23) (st' := []) (fun _ _ _ kt kf => e_ifnez dX0_drawStaple_20 (tgt := 26) rfl kt kf) (fun h4 => ?_) (fun h4 => ?_)
    · refine ev_st (pc' := 40) (L' := [xR a, xI i0]) (st' := []) (fun _ _ _ k => e_aload_n dX0_drawStaple_26 rfl (i := 0) (x := a) rfl (e_dupR dX0_drawStaple_27 (e_geti dX0_drawStaple_28 flX0_50 (kd0_0 h_a) (Or.inl rfl) (e_iconst dX0_drawStaple_31 (k4 rfl) (e_iload_n dX0_drawStaple_32 rfl (i := 1) (x := i0) rfl (e_ishl dX0_drawStaple_33 (e_iconst dX0_drawStaple_34 (k4 rfl) (e_ixor dX0_drawStaple_35 (e_iand dX0_drawStaple_36 (e_puti dX0_drawStaple_37 flX0_50 (kd0_0 h_a) (Or.inl rfl) rfl k)))))))))) ?_
      refine ev_letR (fun R5 eR5 => ?_)
      refine ev_st (pc' := 50) (L' := [xR a, xI i0]) (st' := []) (fun _ _ _ k => e_aload_n dX0_drawStaple_40 rfl (i := 0) (x := a) rfl (e_getr dX0_drawStaple_41 flX0_39 (kd0_0 h_a) rfl (rf0_0_4 h_a) (e_iconst dX0_drawStaple_44 (k4 rfl) (e_dup2 dX0_drawStaple_45 (e_iald dX0_drawStaple_46 (kd0_13 h_a) (by decide) (by decide) (e_iconst dX0_drawStaple_47 (k4 rfl) (e_iadd dX0_drawStaple_48 (e_iast dX0_drawStaple_49 (kd0_13 h_a) (by decide) (by decide) k)))))))) ?_
      refine ev_letR (fun R6 eR6 => ?_)
      refine ev_st (pc' := 54) (L' := [xR a, xI i0]) (st' := [xI (R6 a 7)]) (fun _ _ _ k => e_aload_n dX0_drawStaple_50 rfl (i := 0) (x := a) rfl (e_geti dX0_drawStaple_51 flX0_50 (kd0_0 h_a) (Or.inl rfl) k)) ?_
      refine ev_callS (As := [xI (R6 a 7)]) (st := []) (fun v7 => [xI v7]) dX0_drawStaple_54 mlX0_167 rfl rfl rfl rfl rfl rfl (c_J6_bitCount_0f7a4 (d := d) (R6 a 7)) (fun _ => trivial) (fun _ => rfl) (fun v7 => ?_)
      exact ev_ret (e_iret dX0_drawStaple_57)
    · exact ev_ret (e_bipush dX0_drawStaple_23 rfl (k4 rfl) (e_iret dX0_drawStaple_25))
  · exact ev_ret (e_iconst dX0_drawStaple_10 (k4 rfl) (e_iret dX0_drawStaple_11))
def f_X0_changeLegs (a : Nat) (i0 : Int) (R : xN) : Option (Int × xN) :=
  (f_X9_isIn i0 1 16 R).bind (fun v1 =>
  if v1 = true then
  xlet (R a 8) (fun x3 =>
  xlet (xup R a 8 i0) (fun R4 =>
  some (x3, R4)))
  else
  some ((-1), R))
set_option maxRecDepth 20000 in
set_option maxHeartbeats 4000000 in
theorem c_X0_changeLegs {l : Launch} {g : xG} {d : Nat} {A : xA} {R : xN} {a : Nat} (h_a : sh 0 A a) (i0 : Int) : Ev l g (d + 1) mX0_changeLegs 0 [xR a, xI i0, xU] [] A R (fun v : Int × xN => some (xI v.1)) (fun v => v.2) (f_X0_changeLegs a i0 R) := by
  rw [f_X0_changeLegs]
  refine ev_st (pc' := 4) (L' := [xR a, xI i0, xU]) (st' := [xI 16, xI 1, xI i0]) (fun _ _ _ k => e_iload_n dX0_changeLegs_0 rfl (i := 1) (x := i0) rfl (e_iconst dX0_changeLegs_1 (k4 rfl) (e_bipush dX0_changeLegs_2 rfl (k4 rfl) k))) ?_
  refine ev_callN (As := [xI i0, xI 1, xI 16]) (st := []) (fun v1 => [xI (xz v1)]) dX0_changeLegs_4 mlX0_92 rfl rfl rfl rfl rfl rfl (c_X9_isIn (d := d) i0 1 16) (fun _ => xz01 _) (fun _ => rfl) (fun v1 => ?_)
  refine ev_br2 (P := v1 = true) (pct := 12) (pcf := 10) (st' := []) (fun _ _ _ kt kf => e_ifnez dX0_changeLegs_7 (tgt := 12) rfl kt kf) (fun h2 => ?_) (fun h2 => ?_)
  · refine ev_st (pc' := 16) (L' := [xR a, xI i0, xU]) (st' := [xI (R a 8)]) (fun _ _ _ k => e_aload_n dX0_changeLegs_12 rfl (i := 0) (x := a) rfl (e_geti dX0_changeLegs_13 flX0_53 (kd0_0 h_a) (Or.inl rfl) k)) ?_
    refine ev_leti (fun x3 ex3 => ?_)
    refine ev_st (pc' := 17) (L' := [xR a, xI i0, xI x3]) (st' := []) (fun _ _ _ k => e_istore_n dX0_changeLegs_16 rfl (i := 2) rfl (L' := [xR a, xI i0, xI x3]) rfl k) ?_
    refine ev_st (pc' := 22) (L' := [xR a, xI i0, xI x3]) (st' := []) (fun _ _ _ k => e_aload_n dX0_changeLegs_17 rfl (i := 0) (x := a) rfl (e_iload_n dX0_changeLegs_18 rfl (i := 1) (x := i0) rfl (e_puti dX0_changeLegs_19 flX0_53 (kd0_0 h_a) (Or.inl rfl) rfl k))) ?_
    refine ev_letR (fun R4 eR4 => ?_)
    exact ev_ret (e_iload_n dX0_changeLegs_22 rfl (i := 2) (x := x3) rfl (e_iret dX0_changeLegs_23))
  · exact ev_ret (e_iconst dX0_changeLegs_10 (k4 rfl) (e_iret dX0_changeLegs_11))
def f_X5_cells (a : Nat) (R : xN) : Option (Int) :=
  some (w4 ((R a 0) * (R a 1)))
set_option maxRecDepth 20000 in
set_option maxHeartbeats 4000000 in
theorem c_X5_cells {l : Launch} {g : xG} {d : Nat} {A : xA} {R : xN} {a : Nat} (h_a : sh 5 A a)  : Ev l g (d) mX5_cells 0 [xR a] [] A R (fun v : Int => some (xI v)) (fun _ => R) (f_X5_cells a R) := by
  rw [f_X5_cells]
  exact ev_ret (e_aload_n dX5_cells_0 rfl (i := 0) (x := a) rfl (e_geti dX5_cells_1 flX5_9 (kd5_0 h_a) (Or.inl rfl) (e_aload_n dX5_cells_4 rfl (i := 0) (x := a) rfl (e_geti dX5_cells_5 flX5_15 (kd5_0 h_a) (Or.inl rfl) (e_imul dX5_cells_8 (e_iret dX5_cells_9))))))
def f_X7_put (a : Nat) (i0 : Int) (i1 : Int) (i2 : Int) (R : xN) : Option (Int × xN) :=
  (f_X9_isIn (R a 3) 0 7 R).bind (fun v1 =>
  if v1 = true then
  if 0 ≤ (R a 3) ∧ (R a 3) < 8 then
  xlet (xup R (a + 1) ((R a 3)).toNat i0) (fun R4 =>
  if 0 ≤ (R4 a 3) ∧ (R4 a 3) < 8 then
  xlet (xup R4 (a + 2) ((R4 a 3)).toNat i1) (fun R6 =>
  if 0 ≤ (R6 a 3) ∧ (R6 a 3) < 8 then
  xlet (xup R6 (a + 3) ((R6 a 3)).toNat i2) (fun R8 =>
  xlet (xup R8 a 3 (w4 ((R8 a 3) + 1))) (fun R9 =>
  some ((R9 a 3), R9)))
  else none)
  else none)
  else none
  else
  some ((-3), R))
set_option maxRecDepth 20000 in
set_option maxHeartbeats 4000000 in
theorem c_X7_put {l : Launch} {g : xG} {d : Nat} {A : xA} {R : xN} {a : Nat} (h_a : sh 7 A a) (i0 : Int) (i1 : Int) (i2 : Int) : Ev l g (d + 1) mX7_put 0 [xR a, xI i0, xI i1, xI i2] [] A R (fun v : Int × xN => some (xI v.1)) (fun v => v.2) (f_X7_put a i0 i1 i2 R) := by
  rw [f_X7_put]
  refine ev_st (pc' := 7) (L' := [xR a, xI i0, xI i1, xI i2]) (st' := [xI 7, xI 0, xI (R a 3)]) (fun _ _ _ k => e_aload_n dX7_put_0 rfl (i := 0) (x := a) rfl (e_geti dX7_put_1 flX7_21 (kd7_0 h_a) (Or.inl rfl) (e_iconst dX7_put_4 (k4 rfl) (e_bipush dX7_put_5 rfl (k4 rfl) k)))) ?_
  refine ev_callN (As := [xI (R a 3), xI 0, xI 7]) (st := []) (fun v1 => [xI (xz v1)]) dX7_put_7 mlX7_31 rfl rfl rfl rfl rfl rfl (c_X9_isIn (d := d) (R a 3) 0 7) (fun _ => xz01 _) (fun _ => rfl) (fun v1 => ?_)
  refine ev_br2 (P := v1 = true) (pct := 16) (pcf := 13) (st' := []) (fun _ _ _ kt kf => e_ifnez dX7_put_10 (tgt := 16) rfl kt kf) (fun h2 => ?_) (fun h2 => ?_)
  · refine ev_st (pc' := 25) (L' := [xR a, xI i0, xI i1, xI i2]) (st' := [xI i0, xI (R a 3), xR (a + 1)]) (fun _ _ _ k => e_aload_n dX7_put_16 rfl (i := 0) (x := a) rfl (e_getr dX7_put_17 flX7_9 (kd7_0 h_a) rfl (rf7_0_0 h_a) (e_aload_n dX7_put_20 rfl (i := 0) (x := a) rfl (e_geti dX7_put_21 flX7_21 (kd7_0 h_a) (Or.inl rfl) (e_iload_n dX7_put_24 rfl (i := 1) (x := i0) rfl k))))) ?_
    refine ev_chk (fun h3 => ?_)
    refine ev_st (pc' := 26) (L' := [xR a, xI i0, xI i1, xI i2]) (st' := []) (fun _ _ _ k => e_iast dX7_put_25 (kd7_1 h_a) h3.1 h3.2 k) ?_
    refine ev_letR (fun R4 eR4 => ?_)
    refine ev_st (pc' := 35) (L' := [xR a, xI i0, xI i1, xI i2]) (st' := [xI i1, xI (R4 a 3), xR (a + 2)]) (fun _ _ _ k => e_aload_n dX7_put_26 rfl (i := 0) (x := a) rfl (e_getr dX7_put_27 flX7_15 (kd7_0 h_a) rfl (rf7_0_1 h_a) (e_aload_n dX7_put_30 rfl (i := 0) (x := a) rfl (e_geti dX7_put_31 flX7_21 (kd7_0 h_a) (Or.inl rfl) (e_iload_n dX7_put_34 rfl (i := 2) (x := i1) rfl k))))) ?_
    refine ev_chk (fun h5 => ?_)
    refine ev_st (pc' := 36) (L' := [xR a, xI i0, xI i1, xI i2]) (st' := []) (fun _ _ _ k => e_iast dX7_put_35 (kd7_2 h_a) h5.1 h5.2 k) ?_
    refine ev_letR (fun R6 eR6 => ?_)
    refine ev_st (pc' := 45) (L' := [xR a, xI i0, xI i1, xI i2]) (st' := [xI i2, xI (R6 a 3), xR (a + 3)]) (fun _ _ _ k => e_aload_n dX7_put_36 rfl (i := 0) (x := a) rfl (e_getr dX7_put_37 flX7_18 (kd7_0 h_a) rfl (rf7_0_2 h_a) (e_aload_n dX7_put_40 rfl (i := 0) (x := a) rfl (e_geti dX7_put_41 flX7_21 (kd7_0 h_a) (Or.inl rfl) (e_iload_n dX7_put_44 rfl (i := 3) (x := i2) rfl k))))) ?_
    refine ev_chk (fun h7 => ?_)
    refine ev_st (pc' := 46) (L' := [xR a, xI i0, xI i1, xI i2]) (st' := []) (fun _ _ _ k => e_iast dX7_put_45 (kd7_3 h_a) h7.1 h7.2 k) ?_
    refine ev_letR (fun R8 eR8 => ?_)
    refine ev_st (pc' := 56) (L' := [xR a, xI i0, xI i1, xI i2]) (st' := []) (fun _ _ _ k => e_aload_n dX7_put_46 rfl (i := 0) (x := a) rfl (e_dupR dX7_put_47 (e_geti dX7_put_48 flX7_21 (kd7_0 h_a) (Or.inl rfl) (e_iconst dX7_put_51 (k4 rfl) (e_iadd dX7_put_52 (e_puti dX7_put_53 flX7_21 (kd7_0 h_a) (Or.inl rfl) rfl k)))))) ?_
    refine ev_letR (fun R9 eR9 => ?_)
    exact ev_ret (e_aload_n dX7_put_56 rfl (i := 0) (x := a) rfl (e_geti dX7_put_57 flX7_21 (kd7_0 h_a) (Or.inl rfl) (e_iret dX7_put_60)))
  · exact ev_ret (e_bipush dX7_put_13 rfl (k4 rfl) (e_iret dX7_put_15))
def f_X0_keepSight (a : Nat) (i0 : Int) (i1 : Int) (i2 : Int) (R : xN) : Option (Int × xN) :=
  (f_X5_cells (a + 1) R).bind (fun v1 =>
  (f_X9_isIn i0 0 (w4 ((w4 (v1 * 2)) - 1)) R).bind (fun v2 =>
  if v2 = true then
  (f_X9_isIn i1 0 31 R).bind (fun v4 =>
  if v4 = true then
  (f_X9_isIn i2 0 1 R).bind (fun v6 =>
  if v6 = true then
  (f_X7_put (a + 7) i0 i1 i2 R).bind (fun v8 =>
  some (v8.1, v8.2))
  else
  some ((-1), R))
  else
  some ((-1), R))
  else
  some ((-1), R)))
set_option maxRecDepth 20000 in
set_option maxHeartbeats 4000000 in
theorem c_X0_keepSight {l : Launch} {g : xG} {d : Nat} {A : xA} {R : xN} {a : Nat} (h_a : sh 0 A a) (i0 : Int) (i1 : Int) (i2 : Int) : Ev l g (d + 2) mX0_keepSight 0 [xR a, xI i0, xI i1, xI i2] [] A R (fun v : Int × xN => some (xI v.1)) (fun v => v.2) (f_X0_keepSight a i0 i1 i2 R) := by
  rw [f_X0_keepSight]
  refine ev_st (pc' := 6) (L' := [xR a, xI i0, xI i1, xI i2]) (st' := [xR (a + 1), xI 0, xI i0]) (fun _ _ _ k => e_iload_n dX0_keepSight_0 rfl (i := 1) (x := i0) rfl (e_iconst dX0_keepSight_1 (k4 rfl) (e_aload_n dX0_keepSight_2 rfl (i := 0) (x := a) rfl (e_getr dX0_keepSight_3 flX0_12 (kd0_0 h_a) rfl (rf0_0_0 h_a) k)))) ?_
  refine ev_callV (As := []) (st := [xI 0, xI i0]) (fun v1 => [xI v1, xI 0, xI i0]) dX0_keepSight_6 mlX0_177 (kd0_1 h_a) rfl rfl rfl rfl rfl rfl (c_X5_cells (d := d + 1) (sb0_1_5 h_a)) (fun _ => trivial) (fun _ => rfl) (fun v1 => ?_)
  refine ev_st (pc' := 13) (L' := [xR a, xI i0, xI i1, xI i2]) (st' := [xI (w4 ((w4 (v1 * 2)) - 1)), xI 0, xI i0]) (fun _ _ _ k => e_iconst dX0_keepSight_9 (k4 rfl) (e_imul dX0_keepSight_10 (e_iconst dX0_keepSight_11 (k4 rfl) (e_isub dX0_keepSight_12 k)))) ?_
  refine ev_callN (As := [xI i0, xI 0, xI (w4 ((w4 (v1 * 2)) - 1))]) (st := []) (fun v2 => [xI (xz v2)]) dX0_keepSight_13 mlX0_92 rfl rfl rfl rfl rfl rfl (c_X9_isIn (d := d + 1) i0 0 (w4 ((w4 (v1 * 2)) - 1))) (fun _ => xz01 _) (fun _ => rfl) (fun v2 => ?_)
  refine ev_br2 (P := v2 = true) (pct := 19) (pcf := 38) (st' := []) (fun _ _ _ kt kf => e_ifeqz dX0_keepSight_16 (tgt := 38) rfl kt kf) (fun h3 => ?_) (fun h3 => ?_)
  · refine ev_st (pc' := 23) (L' := [xR a, xI i0, xI i1, xI i2]) (st' := [xI 31, xI 0, xI i1]) (fun _ _ _ k => e_iload_n dX0_keepSight_19 rfl (i := 2) (x := i1) rfl (e_iconst dX0_keepSight_20 (k4 rfl) (e_bipush dX0_keepSight_21 rfl (k4 rfl) k))) ?_
    refine ev_callN (As := [xI i1, xI 0, xI 31]) (st := []) (fun v4 => [xI (xz v4)]) dX0_keepSight_23 mlX0_92 rfl rfl rfl rfl rfl rfl (c_X9_isIn (d := d + 1) i1 0 31) (fun _ => xz01 _) (fun _ => rfl) (fun v4 => ?_)
    refine ev_br2 (P := v4 = true) (pct := 29) (pcf := 38) (st' := []) (fun _ _ _ kt kf => e_ifeqz dX0_keepSight_26 (tgt := 38) rfl kt kf) (fun h5 => ?_) (fun h5 => ?_)
    · refine ev_st (pc' := 32) (L' := [xR a, xI i0, xI i1, xI i2]) (st' := [xI 1, xI 0, xI i2]) (fun _ _ _ k => e_iload_n dX0_keepSight_29 rfl (i := 3) (x := i2) rfl (e_iconst dX0_keepSight_30 (k4 rfl) (e_iconst dX0_keepSight_31 (k4 rfl) k))) ?_
      refine ev_callN (As := [xI i2, xI 0, xI 1]) (st := []) (fun v6 => [xI (xz v6)]) dX0_keepSight_32 mlX0_92 rfl rfl rfl rfl rfl rfl (c_X9_isIn (d := d + 1) i2 0 1) (fun _ => xz01 _) (fun _ => rfl) (fun v6 => ?_)
      refine ev_br2 (P := v6 = true) (pct := 40) (pcf := 38) (st' := []) (fun _ _ _ kt kf => e_ifnez dX0_keepSight_35 (tgt := 40) rfl kt kf) (fun h7 => ?_) (fun h7 => ?_)
      · refine ev_st (pc' := 47) (L' := [xR a, xI i0, xI i1, xI i2]) (st' := [xI i2, xI i1, xI i0, xR (a + 7)]) (fun _ _ _ k => e_aload_n dX0_keepSight_40 rfl (i := 0) (x := a) rfl (e_getr dX0_keepSight_41 flX0_28 (kd0_0 h_a) rfl (rf0_0_2 h_a) (e_iload_n dX0_keepSight_44 rfl (i := 1) (x := i0) rfl (e_iload_n dX0_keepSight_45 rfl (i := 2) (x := i1) rfl (e_iload_n dX0_keepSight_46 rfl (i := 3) (x := i2) rfl k))))) ?_
        refine ev_callV (As := [xI i0, xI i1, xI i2]) (st := []) (fun v8 => [xI v8.1]) dX0_keepSight_47 mlX0_180 (kd0_7 h_a) rfl rfl rfl rfl rfl rfl (c_X7_put (d := d) (sb0_7_7 h_a) i0 i1 i2) (fun _ => trivial) (fun _ => rfl) (fun v8 => ?_)
        exact ev_ret (e_iret dX0_keepSight_50)
      · exact ev_ret (e_iconst dX0_keepSight_38 (k4 rfl) (e_iret dX0_keepSight_39))
    · exact ev_ret (e_iconst dX0_keepSight_38 (k4 rfl) (e_iret dX0_keepSight_39))
  · exact ev_ret (e_iconst dX0_keepSight_38 (k4 rfl) (e_iret dX0_keepSight_39))
def f_X5_numberAt (a : Nat) (i0 : Int) (R : xN) : Option (Int) :=
  (f_X9_isIn i0 0 31 R).bind (fun v1 =>
  if v1 = true then
  if 0 ≤ i0 ∧ i0 < 32 then
  some (R (a + 1) (i0).toNat)
  else none
  else
  some (-9))
set_option maxRecDepth 20000 in
set_option maxHeartbeats 4000000 in
theorem c_X5_numberAt {l : Launch} {g : xG} {d : Nat} {A : xA} {R : xN} {a : Nat} (h_a : sh 5 A a) (i0 : Int) : Ev l g (d + 1) mX5_numberAt 0 [xR a, xI i0] [] A R (fun v : Int => some (xI v)) (fun _ => R) (f_X5_numberAt a i0 R) := by
  rw [f_X5_numberAt]
  refine ev_st (pc' := 4) (L' := [xR a, xI i0]) (st' := [xI 31, xI 0, xI i0]) (fun _ _ _ k => e_iload_n dX5_numberAt_0 rfl (i := 1) (x := i0) rfl (e_iconst dX5_numberAt_1 (k4 rfl) (e_bipush dX5_numberAt_2 rfl (k4 rfl) k))) ?_
  refine ev_callN (As := [xI i0, xI 0, xI 31]) (st := []) (fun v1 => [xI (xz v1)]) dX5_numberAt_4 mlX5_37 rfl rfl rfl rfl rfl rfl (c_X9_isIn (d := d) i0 0 31) (fun _ => xz01 _) (fun _ => rfl) (fun v1 => ?_)
  refine ev_br2 (P := v1 = true) (pct := 10) (pcf := 19) (st' := []) (fun _ _ _ kt kf => e_ifeqz dX5_numberAt_7 (tgt := 19) rfl kt kf) (fun h2 => ?_) (fun h2 => ?_)
  · refine ev_st (pc' := 15) (L' := [xR a, xI i0]) (st' := [xI i0, xR (a + 1)]) (fun _ _ _ k => e_aload_n dX5_numberAt_10 rfl (i := 0) (x := a) rfl (e_getr dX5_numberAt_11 flX5_18 (kd5_0 h_a) rfl (rf5_0_2 h_a) (e_iload_n dX5_numberAt_14 rfl (i := 1) (x := i0) rfl k))) ?_
    refine ev_chk (fun h3 => ?_)
    refine ev_st (pc' := 16) (L' := [xR a, xI i0]) (st' := [xI (R (a + 1) (i0).toNat)]) (fun _ _ _ k => e_iald dX5_numberAt_15 (kd5_1 h_a) h3.1 h3.2 k) ?_
    exact ev_ret (e_goto dX5_numberAt_16 (tgt := 21) rfl (e_iret dX5_numberAt_21))
  · exact ev_ret (e_bipush dX5_numberAt_19 rfl (k4 rfl) (e_iret dX5_numberAt_21))
def f_X0_numberOn (a : Nat) (b : Nat) (i1 : Int) (R : xN) : Option (Int) :=
  (f_X3_paperPlace b i1 R).bind (fun v1 =>
  (f_X5_numberAt (a + 1) v1 R).bind (fun v2 =>
  some v2))
set_option maxRecDepth 20000 in
set_option maxHeartbeats 4000000 in
theorem c_X0_numberOn {l : Launch} {g : xG} {d : Nat} {A : xA} {R : xN} {a : Nat} {b : Nat} (h_a : sh 0 A a) (h_b : sh 3 A b) (i1 : Int) : Ev l g (d + 2) mX0_numberOn 0 [xR a, xR b, xI i1] [] A R (fun v : Int => some (xI v)) (fun _ => R) (f_X0_numberOn a b i1 R) := by
  rw [f_X0_numberOn]
  refine ev_st (pc' := 6) (L' := [xR a, xR b, xI i1]) (st' := [xI i1, xR b, xR (a + 1)]) (fun _ _ _ k => e_aload_n dX0_numberOn_0 rfl (i := 0) (x := a) rfl (e_getr dX0_numberOn_1 flX0_12 (kd0_0 h_a) rfl (rf0_0_0 h_a) (e_aload_n dX0_numberOn_4 rfl (i := 1) (x := b) rfl (e_iload_n dX0_numberOn_5 rfl (i := 2) (x := i1) rfl k)))) ?_
  refine ev_callV (As := [xI i1]) (st := [xR (a + 1)]) (fun v1 => [xI v1, xR (a + 1)]) dX0_numberOn_6 mlX0_150 (kd3_0 h_b) rfl rfl rfl rfl rfl rfl (c_X3_paperPlace (d := d) h_b i1) (fun _ => trivial) (fun _ => rfl) (fun v1 => ?_)
  refine ev_callV (As := [xI v1]) (st := []) (fun v2 => [xI v2]) dX0_numberOn_9 mlX0_139 (kd0_1 h_a) rfl rfl rfl rfl rfl rfl (c_X5_numberAt (d := d) (sb0_1_5 h_a) v1) (fun _ => trivial) (fun _ => rfl) (fun v2 => ?_)
  exact ev_ret (e_iret dX0_numberOn_12)
def f_X5_turnAt (a : Nat) (i0 : Int) (R : xN) : Option (Int) :=
  (f_X9_isIn i0 0 31 R).bind (fun v1 =>
  if v1 = true then
  if 0 ≤ i0 ∧ i0 < 32 then
  some (R (a + 2) (i0).toNat)
  else none
  else
  some 0)
set_option maxRecDepth 20000 in
set_option maxHeartbeats 4000000 in
theorem c_X5_turnAt {l : Launch} {g : xG} {d : Nat} {A : xA} {R : xN} {a : Nat} (h_a : sh 5 A a) (i0 : Int) : Ev l g (d + 1) mX5_turnAt 0 [xR a, xI i0] [] A R (fun v : Int => some (xI v)) (fun _ => R) (f_X5_turnAt a i0 R) := by
  rw [f_X5_turnAt]
  refine ev_st (pc' := 4) (L' := [xR a, xI i0]) (st' := [xI 31, xI 0, xI i0]) (fun _ _ _ k => e_iload_n dX5_turnAt_0 rfl (i := 1) (x := i0) rfl (e_iconst dX5_turnAt_1 (k4 rfl) (e_bipush dX5_turnAt_2 rfl (k4 rfl) k))) ?_
  refine ev_callN (As := [xI i0, xI 0, xI 31]) (st := []) (fun v1 => [xI (xz v1)]) dX5_turnAt_4 mlX5_37 rfl rfl rfl rfl rfl rfl (c_X9_isIn (d := d) i0 0 31) (fun _ => xz01 _) (fun _ => rfl) (fun v1 => ?_)
  refine ev_br2 (P := v1 = true) (pct := 10) (pcf := 19) (st' := []) (fun _ _ _ kt kf => e_ifeqz dX5_turnAt_7 (tgt := 19) rfl kt kf) (fun h2 => ?_) (fun h2 => ?_)
  · refine ev_st (pc' := 15) (L' := [xR a, xI i0]) (st' := [xI i0, xR (a + 2)]) (fun _ _ _ k => e_aload_n dX5_turnAt_10 rfl (i := 0) (x := a) rfl (e_getr dX5_turnAt_11 flX5_22 (kd5_0 h_a) rfl (rf5_0_3 h_a) (e_iload_n dX5_turnAt_14 rfl (i := 1) (x := i0) rfl k))) ?_
    refine ev_chk (fun h3 => ?_)
    refine ev_st (pc' := 16) (L' := [xR a, xI i0]) (st' := [xI (R (a + 2) (i0).toNat)]) (fun _ _ _ k => e_iald dX5_turnAt_15 (kd5_2 h_a) h3.1 h3.2 k) ?_
    exact ev_ret (e_goto dX5_turnAt_16 (tgt := 20) rfl (e_iret dX5_turnAt_20))
  · exact ev_ret (e_iconst dX5_turnAt_19 (k4 rfl) (e_iret dX5_turnAt_20))
def f_X0_isUpright (a : Nat) (b : Nat) (i1 : Int) (R : xN) : Option (Bool) :=
  (f_X3_paperPlace b i1 R).bind (fun v1 =>
  (f_X5_turnAt (a + 1) v1 R).bind (fun v2 =>
  (f_X0_turnForUpright a b i1 R).bind (fun v3 =>
  if v2 = v3 then
  some true
  else
  some false)))
set_option maxRecDepth 20000 in
set_option maxHeartbeats 4000000 in
theorem c_X0_isUpright {l : Launch} {g : xG} {d : Nat} {A : xA} {R : xN} {a : Nat} {b : Nat} (h_a : sh 0 A a) (h_b : sh 3 A b) (i1 : Int) : Ev l g (d + 3) mX0_isUpright 0 [xR a, xR b, xI i1] [] A R (fun v : Bool => some (xI (xz v))) (fun _ => R) (f_X0_isUpright a b i1 R) := by
  rw [f_X0_isUpright]
  refine ev_st (pc' := 6) (L' := [xR a, xR b, xI i1]) (st' := [xI i1, xR b, xR (a + 1)]) (fun _ _ _ k => e_aload_n dX0_isUpright_0 rfl (i := 0) (x := a) rfl (e_getr dX0_isUpright_1 flX0_12 (kd0_0 h_a) rfl (rf0_0_0 h_a) (e_aload_n dX0_isUpright_4 rfl (i := 1) (x := b) rfl (e_iload_n dX0_isUpright_5 rfl (i := 2) (x := i1) rfl k)))) ?_
  refine ev_callV (As := [xI i1]) (st := [xR (a + 1)]) (fun v1 => [xI v1, xR (a + 1)]) dX0_isUpright_6 mlX0_150 (kd3_0 h_b) rfl rfl rfl rfl rfl rfl (c_X3_paperPlace (d := d + 1) h_b i1) (fun _ => trivial) (fun _ => rfl) (fun v1 => ?_)
  refine ev_callV (As := [xI v1]) (st := []) (fun v2 => [xI v2]) dX0_isUpright_9 mlX0_190 (kd0_1 h_a) rfl rfl rfl rfl rfl rfl (c_X5_turnAt (d := d + 1) (sb0_1_5 h_a) v1) (fun _ => trivial) (fun _ => rfl) (fun v2 => ?_)
  refine ev_st (pc' := 15) (L' := [xR a, xR b, xI i1]) (st' := [xI i1, xR b, xR a, xI v2]) (fun _ _ _ k => e_aload_n dX0_isUpright_12 rfl (i := 0) (x := a) rfl (e_aload_n dX0_isUpright_13 rfl (i := 1) (x := b) rfl (e_iload_n dX0_isUpright_14 rfl (i := 2) (x := i1) rfl k))) ?_
  refine ev_callV (As := [xR b, xI i1]) (st := [xI v2]) (fun v3 => [xI v3, xI v2]) dX0_isUpright_15 mlX0_153 (kd0_0 h_a) rfl rfl rfl rfl rfl rfl (c_X0_turnForUpright (d := d) h_a h_b i1) (fun _ => trivial) (fun _ => rfl) (fun v3 => ?_)
  refine ev_br2 (P := v2 = v3) (pct := 21) (pcf := 25) (st' := []) (fun _ _ _ kt kf => e_cne dX0_isUpright_18 (tgt := 25) rfl kt kf) (fun h4 => ?_) (fun h4 => ?_)
  · exact ev_ret (e_iconst dX0_isUpright_21 (k4 rfl) (e_goto dX0_isUpright_22 (tgt := 26) rfl (e_iret dX0_isUpright_26)))
  · exact ev_ret (e_iconst dX0_isUpright_25 (k4 rfl) (e_iret dX0_isUpright_26))
