def f_X5_copyFrom (a : Nat) (b : Nat) (R : xN) : Option (xN) :=
  xlet (xup R a 0 (R b 0)) (fun R1 =>
  xlet (xup R1 a 1 (R1 b 1)) (fun R2 =>
  xlet (xcpy R2 (b + 1) (a + 1) 0 0 32) (fun R3 =>
  xlet (xcpy R3 (b + 2) (a + 2) 0 0 32) (fun R4 =>
  some R4))))
set_option maxRecDepth 20000 in
set_option maxHeartbeats 4000000 in
theorem c_X5_copyFrom {l : Launch} {g : xG} {d : Nat} {A : xA} {R : xN} {a : Nat} {b : Nat} (h_a : sh 5 A a) (h_b : sh 5 A b)  : Ev l g (d + 1) mX5_copyFrom 0 [xR a, xR b] [] A R (fun _ : xN => none) (fun v => v) (f_X5_copyFrom a b R) := by
  rw [f_X5_copyFrom]
  refine ev_st (pc' := 8) (L' := [xR a, xR b]) (st' := []) (fun _ _ _ k => e_aload_n dX5_copyFrom_0 rfl (i := 0) (x := a) rfl (e_aload_n dX5_copyFrom_1 rfl (i := 1) (x := b) rfl (e_geti dX5_copyFrom_2 flX5_9 (kd5_0 h_b) (Or.inl rfl) (e_puti dX5_copyFrom_5 flX5_9 (kd5_0 h_a) (Or.inl rfl) rfl k)))) ?_
  refine ev_letR (fun R1 eR1 => ?_)
  refine ev_st (pc' := 16) (L' := [xR a, xR b]) (st' := []) (fun _ _ _ k => e_aload_n dX5_copyFrom_8 rfl (i := 0) (x := a) rfl (e_aload_n dX5_copyFrom_9 rfl (i := 1) (x := b) rfl (e_geti dX5_copyFrom_10 flX5_15 (kd5_0 h_b) (Or.inl rfl) (e_puti dX5_copyFrom_13 flX5_15 (kd5_0 h_a) (Or.inl rfl) rfl k)))) ?_
  refine ev_letR (fun R2 eR2 => ?_)
  refine ev_st (pc' := 31) (L' := [xR a, xR b]) (st' := []) (fun _ _ _ k => e_aload_n dX5_copyFrom_16 rfl (i := 1) (x := b) rfl (e_getr dX5_copyFrom_17 flX5_18 (kd5_0 h_b) rfl (rf5_0_2 h_b) (e_iconst dX5_copyFrom_20 (k4 rfl) (e_aload_n dX5_copyFrom_21 rfl (i := 0) (x := a) rfl (e_getr dX5_copyFrom_22 flX5_18 (kd5_0 h_a) rfl (rf5_0_2 h_a) (e_iconst dX5_copyFrom_25 (k4 rfl) (e_bipush dX5_copyFrom_26 rfl (k4 rfl) (e_copy dX5_copyFrom_28 cw_322 cw_324 cw_323 cw_12 (kd5_1 h_b) (kd5_1 h_a) (by decide) (by decide) (by decide) (by decide) (by decide) rfl k)))))))) ?_
  refine ev_letR (fun R3 eR3 => ?_)
  refine ev_st (pc' := 46) (L' := [xR a, xR b]) (st' := []) (fun _ _ _ k => e_aload_n dX5_copyFrom_31 rfl (i := 1) (x := b) rfl (e_getr dX5_copyFrom_32 flX5_22 (kd5_0 h_b) rfl (rf5_0_3 h_b) (e_iconst dX5_copyFrom_35 (k4 rfl) (e_aload_n dX5_copyFrom_36 rfl (i := 0) (x := a) rfl (e_getr dX5_copyFrom_37 flX5_22 (kd5_0 h_a) rfl (rf5_0_3 h_a) (e_iconst dX5_copyFrom_40 (k4 rfl) (e_bipush dX5_copyFrom_41 rfl (k4 rfl) (e_copy dX5_copyFrom_43 cw_322 cw_324 cw_323 cw_12 (kd5_2 h_b) (kd5_2 h_a) (by decide) (by decide) (by decide) (by decide) (by decide) rfl k)))))))) ?_
  refine ev_letR (fun R4 eR4 => ?_)
  exact ev_ret (e_vret dX5_copyFrom_46)
def f_X3_copyFrom (a : Nat) (b : Nat) (R : xN) : Option (xN) :=
  xlet (xup R a 0 (R b 0)) (fun R1 =>
  xlet (xup R1 a 1 (R1 b 1)) (fun R2 =>
  xlet (xup R2 a 2 (R2 b 2)) (fun R3 =>
  xlet (xup R3 a 3 (R3 b 3)) (fun R4 =>
  xlet (xup R4 a 4 (R4 b 4)) (fun R5 =>
  xlet (xup R5 a 5 (R5 b 5)) (fun R6 =>
  xlet (xcpy R6 (b + 1) (a + 1) 0 0 16) (fun R7 =>
  some R7)))))))
set_option maxRecDepth 20000 in
set_option maxHeartbeats 4000000 in
theorem c_X3_copyFrom {l : Launch} {g : xG} {d : Nat} {A : xA} {R : xN} {a : Nat} {b : Nat} (h_a : sh 3 A a) (h_b : sh 3 A b)  : Ev l g (d + 1) mX3_copyFrom 0 [xR a, xR b] [] A R (fun _ : xN => none) (fun v => v) (f_X3_copyFrom a b R) := by
  rw [f_X3_copyFrom]
  refine ev_st (pc' := 8) (L' := [xR a, xR b]) (st' := []) (fun _ _ _ k => e_aload_n dX3_copyFrom_0 rfl (i := 0) (x := a) rfl (e_aload_n dX3_copyFrom_1 rfl (i := 1) (x := b) rfl (e_geti dX3_copyFrom_2 flX3_9 (kd3_0 h_b) (Or.inl rfl) (e_puti dX3_copyFrom_5 flX3_9 (kd3_0 h_a) (Or.inl rfl) rfl k)))) ?_
  refine ev_letR (fun R1 eR1 => ?_)
  refine ev_st (pc' := 16) (L' := [xR a, xR b]) (st' := []) (fun _ _ _ k => e_aload_n dX3_copyFrom_8 rfl (i := 0) (x := a) rfl (e_aload_n dX3_copyFrom_9 rfl (i := 1) (x := b) rfl (e_geti dX3_copyFrom_10 flX3_15 (kd3_0 h_b) (Or.inl rfl) (e_puti dX3_copyFrom_13 flX3_15 (kd3_0 h_a) (Or.inl rfl) rfl k)))) ?_
  refine ev_letR (fun R2 eR2 => ?_)
  refine ev_st (pc' := 24) (L' := [xR a, xR b]) (st' := []) (fun _ _ _ k => e_aload_n dX3_copyFrom_16 rfl (i := 0) (x := a) rfl (e_aload_n dX3_copyFrom_17 rfl (i := 1) (x := b) rfl (e_geti dX3_copyFrom_18 flX3_18 (kd3_0 h_b) (Or.inl rfl) (e_puti dX3_copyFrom_21 flX3_18 (kd3_0 h_a) (Or.inl rfl) rfl k)))) ?_
  refine ev_letR (fun R3 eR3 => ?_)
  refine ev_st (pc' := 32) (L' := [xR a, xR b]) (st' := []) (fun _ _ _ k => e_aload_n dX3_copyFrom_24 rfl (i := 0) (x := a) rfl (e_aload_n dX3_copyFrom_25 rfl (i := 1) (x := b) rfl (e_geti dX3_copyFrom_26 flX3_21 (kd3_0 h_b) (Or.inl rfl) (e_puti dX3_copyFrom_29 flX3_21 (kd3_0 h_a) (Or.inl rfl) rfl k)))) ?_
  refine ev_letR (fun R4 eR4 => ?_)
  refine ev_st (pc' := 40) (L' := [xR a, xR b]) (st' := []) (fun _ _ _ k => e_aload_n dX3_copyFrom_32 rfl (i := 0) (x := a) rfl (e_aload_n dX3_copyFrom_33 rfl (i := 1) (x := b) rfl (e_geti dX3_copyFrom_34 flX3_24 (kd3_0 h_b) (Or.inl rfl) (e_puti dX3_copyFrom_37 flX3_24 (kd3_0 h_a) (Or.inl rfl) rfl k)))) ?_
  refine ev_letR (fun R5 eR5 => ?_)
  refine ev_st (pc' := 48) (L' := [xR a, xR b]) (st' := []) (fun _ _ _ k => e_aload_n dX3_copyFrom_40 rfl (i := 0) (x := a) rfl (e_aload_n dX3_copyFrom_41 rfl (i := 1) (x := b) rfl (e_geti dX3_copyFrom_42 flX3_27 (kd3_0 h_b) (Or.inl rfl) (e_puti dX3_copyFrom_45 flX3_27 (kd3_0 h_a) (Or.inl rfl) rfl k)))) ?_
  refine ev_letR (fun R6 eR6 => ?_)
  refine ev_st (pc' := 63) (L' := [xR a, xR b]) (st' := []) (fun _ _ _ k => e_aload_n dX3_copyFrom_48 rfl (i := 1) (x := b) rfl (e_getr dX3_copyFrom_49 flX3_30 (kd3_0 h_b) rfl (rf3_0_6 h_b) (e_iconst dX3_copyFrom_52 (k4 rfl) (e_aload_n dX3_copyFrom_53 rfl (i := 0) (x := a) rfl (e_getr dX3_copyFrom_54 flX3_30 (kd3_0 h_a) rfl (rf3_0_6 h_a) (e_iconst dX3_copyFrom_57 (k4 rfl) (e_bipush dX3_copyFrom_58 rfl (k4 rfl) (e_copy dX3_copyFrom_60 cw_329 cw_324 cw_323 cw_12 (kd3_1 h_b) (kd3_1 h_a) (by decide) (by decide) (by decide) (by decide) (by decide) rfl k)))))))) ?_
  refine ev_letR (fun R7 eR7 => ?_)
  exact ev_ret (e_vret dX3_copyFrom_63)
def f_X7_copyFrom (a : Nat) (b : Nat) (R : xN) : Option (xN) :=
  xlet (xup R a 3 (R b 3)) (fun R1 =>
  xlet (xcpy R1 (b + 1) (a + 1) 0 0 8) (fun R2 =>
  xlet (xcpy R2 (b + 2) (a + 2) 0 0 8) (fun R3 =>
  xlet (xcpy R3 (b + 3) (a + 3) 0 0 8) (fun R4 =>
  some R4))))
set_option maxRecDepth 20000 in
set_option maxHeartbeats 4000000 in
theorem c_X7_copyFrom {l : Launch} {g : xG} {d : Nat} {A : xA} {R : xN} {a : Nat} {b : Nat} (h_a : sh 7 A a) (h_b : sh 7 A b)  : Ev l g (d + 1) mX7_copyFrom 0 [xR a, xR b] [] A R (fun _ : xN => none) (fun v => v) (f_X7_copyFrom a b R) := by
  rw [f_X7_copyFrom]
  refine ev_st (pc' := 8) (L' := [xR a, xR b]) (st' := []) (fun _ _ _ k => e_aload_n dX7_copyFrom_0 rfl (i := 0) (x := a) rfl (e_aload_n dX7_copyFrom_1 rfl (i := 1) (x := b) rfl (e_geti dX7_copyFrom_2 flX7_21 (kd7_0 h_b) (Or.inl rfl) (e_puti dX7_copyFrom_5 flX7_21 (kd7_0 h_a) (Or.inl rfl) rfl k)))) ?_
  refine ev_letR (fun R1 eR1 => ?_)
  refine ev_st (pc' := 23) (L' := [xR a, xR b]) (st' := []) (fun _ _ _ k => e_aload_n dX7_copyFrom_8 rfl (i := 1) (x := b) rfl (e_getr dX7_copyFrom_9 flX7_9 (kd7_0 h_b) rfl (rf7_0_0 h_b) (e_iconst dX7_copyFrom_12 (k4 rfl) (e_aload_n dX7_copyFrom_13 rfl (i := 0) (x := a) rfl (e_getr dX7_copyFrom_14 flX7_9 (kd7_0 h_a) rfl (rf7_0_0 h_a) (e_iconst dX7_copyFrom_17 (k4 rfl) (e_bipush dX7_copyFrom_18 rfl (k4 rfl) (e_copy dX7_copyFrom_20 cw_334 cw_324 cw_323 cw_12 (kd7_1 h_b) (kd7_1 h_a) (by decide) (by decide) (by decide) (by decide) (by decide) rfl k)))))))) ?_
  refine ev_letR (fun R2 eR2 => ?_)
  refine ev_st (pc' := 38) (L' := [xR a, xR b]) (st' := []) (fun _ _ _ k => e_aload_n dX7_copyFrom_23 rfl (i := 1) (x := b) rfl (e_getr dX7_copyFrom_24 flX7_15 (kd7_0 h_b) rfl (rf7_0_1 h_b) (e_iconst dX7_copyFrom_27 (k4 rfl) (e_aload_n dX7_copyFrom_28 rfl (i := 0) (x := a) rfl (e_getr dX7_copyFrom_29 flX7_15 (kd7_0 h_a) rfl (rf7_0_1 h_a) (e_iconst dX7_copyFrom_32 (k4 rfl) (e_bipush dX7_copyFrom_33 rfl (k4 rfl) (e_copy dX7_copyFrom_35 cw_334 cw_324 cw_323 cw_12 (kd7_2 h_b) (kd7_2 h_a) (by decide) (by decide) (by decide) (by decide) (by decide) rfl k)))))))) ?_
  refine ev_letR (fun R3 eR3 => ?_)
  refine ev_st (pc' := 53) (L' := [xR a, xR b]) (st' := []) (fun _ _ _ k => e_aload_n dX7_copyFrom_38 rfl (i := 1) (x := b) rfl (e_getr dX7_copyFrom_39 flX7_18 (kd7_0 h_b) rfl (rf7_0_2 h_b) (e_iconst dX7_copyFrom_42 (k4 rfl) (e_aload_n dX7_copyFrom_43 rfl (i := 0) (x := a) rfl (e_getr dX7_copyFrom_44 flX7_18 (kd7_0 h_a) rfl (rf7_0_2 h_a) (e_iconst dX7_copyFrom_47 (k4 rfl) (e_bipush dX7_copyFrom_48 rfl (k4 rfl) (e_copy dX7_copyFrom_50 cw_334 cw_324 cw_323 cw_12 (kd7_3 h_b) (kd7_3 h_a) (by decide) (by decide) (by decide) (by decide) (by decide) rfl k)))))))) ?_
  refine ev_letR (fun R4 eR4 => ?_)
  exact ev_ret (e_vret dX7_copyFrom_53)
def f_X4_copyFrom (a : Nat) (b : Nat) (R : xN) : Option (xN) :=
  xlet (xup R a 1 (R b 1)) (fun R1 =>
  xlet (xcpy R1 (b + 1) (a + 1) 0 0 48) (fun R2 =>
  some R2))
set_option maxRecDepth 20000 in
set_option maxHeartbeats 4000000 in
theorem c_X4_copyFrom {l : Launch} {g : xG} {d : Nat} {A : xA} {R : xN} {a : Nat} {b : Nat} (h_a : sh 4 A a) (h_b : sh 4 A b)  : Ev l g (d + 1) mX4_copyFrom 0 [xR a, xR b] [] A R (fun _ : xN => none) (fun v => v) (f_X4_copyFrom a b R) := by
  rw [f_X4_copyFrom]
  refine ev_st (pc' := 8) (L' := [xR a, xR b]) (st' := []) (fun _ _ _ k => e_aload_n dX4_copyFrom_0 rfl (i := 0) (x := a) rfl (e_aload_n dX4_copyFrom_1 rfl (i := 1) (x := b) rfl (e_geti dX4_copyFrom_2 flX4_15 (kd4_0 h_b) (Or.inl rfl) (e_puti dX4_copyFrom_5 flX4_15 (kd4_0 h_a) (Or.inl rfl) rfl k)))) ?_
  refine ev_letR (fun R1 eR1 => ?_)
  refine ev_st (pc' := 23) (L' := [xR a, xR b]) (st' := []) (fun _ _ _ k => e_aload_n dX4_copyFrom_8 rfl (i := 1) (x := b) rfl (e_getr dX4_copyFrom_9 flX4_11 (kd4_0 h_b) rfl (rf4_0_0 h_b) (e_iconst dX4_copyFrom_12 (k4 rfl) (e_aload_n dX4_copyFrom_13 rfl (i := 0) (x := a) rfl (e_getr dX4_copyFrom_14 flX4_11 (kd4_0 h_a) rfl (rf4_0_0 h_a) (e_iconst dX4_copyFrom_17 (k4 rfl) (e_bipush dX4_copyFrom_18 rfl (k4 rfl) (e_copy dX4_copyFrom_20 cw_339 cw_324 cw_323 cw_12 (kd4_1 h_b) (kd4_1 h_a) (by decide) (by decide) (by decide) (by decide) (by decide) rfl k)))))))) ?_
  refine ev_letR (fun R2 eR2 => ?_)
  exact ev_ret (e_vret dX4_copyFrom_23)
def f_X0_copyFrom (a : Nat) (b : Nat) (R : xN) : Option (xN) :=
  (f_X5_copyFrom (a + 1) (b + 1) R).bind (fun v1 =>
  (f_X3_copyFrom (a + 4) (b + 4) v1).bind (fun v2 =>
  (f_X7_copyFrom (a + 7) (b + 7) v2).bind (fun v3 =>
  (f_X4_copyFrom (a + 11) (b + 11) v3).bind (fun v4 =>
  xlet (xcpy v4 (b + 13) (a + 13) 0 0 4) (fun R5 =>
  xlet (xup R5 a 5 (R5 b 5)) (fun R6 =>
  xlet (xup R6 a 6 (R6 b 6)) (fun R7 =>
  xlet (xup R7 a 7 (R7 b 7)) (fun R8 =>
  xlet (xup R8 a 8 (R8 b 8)) (fun R9 =>
  xlet (xup R9 a 9 (R9 b 9)) (fun R10 =>
  some R10))))))))))
set_option maxRecDepth 20000 in
set_option maxHeartbeats 4000000 in
theorem c_X0_copyFrom {l : Launch} {g : xG} {d : Nat} {A : xA} {R : xN} {a : Nat} {b : Nat} (h_a : sh 0 A a) (h_b : sh 0 A b)  : Ev l g (d + 2) mX0_copyFrom 0 [xR a, xR b] [] A R (fun _ : xN => none) (fun v => v) (f_X0_copyFrom a b R) := by
  rw [f_X0_copyFrom]
  refine ev_st (pc' := 8) (L' := [xR a, xR b]) (st' := [xR (b + 1), xR (a + 1)]) (fun _ _ _ k => e_aload_n dX0_copyFrom_0 rfl (i := 0) (x := a) rfl (e_getr dX0_copyFrom_1 flX0_12 (kd0_0 h_a) rfl (rf0_0_0 h_a) (e_aload_n dX0_copyFrom_4 rfl (i := 1) (x := b) rfl (e_getr dX0_copyFrom_5 flX0_12 (kd0_0 h_b) rfl (rf0_0_0 h_b) k)))) ?_
  refine ev_callV (As := [xR (b + 1)]) (st := []) (fun v1 => []) dX0_copyFrom_8 mlX0_66 (kd0_1 h_a) rfl rfl rfl rfl rfl rfl (c_X5_copyFrom (d := d) (sb0_1_5 h_a) (sb0_1_5 h_b)) (fun _ => trivial) (fun _ => rfl) (fun v1 => ?_)
  refine ev_st (pc' := 19) (L' := [xR a, xR b]) (st' := [xR (b + 4), xR (a + 4)]) (fun _ _ _ k => e_aload_n dX0_copyFrom_11 rfl (i := 0) (x := a) rfl (e_getr dX0_copyFrom_12 flX0_21 (kd0_0 h_a) rfl (rf0_0_1 h_a) (e_aload_n dX0_copyFrom_15 rfl (i := 1) (x := b) rfl (e_getr dX0_copyFrom_16 flX0_21 (kd0_0 h_b) rfl (rf0_0_1 h_b) k)))) ?_
  refine ev_callV (As := [xR (b + 4)]) (st := []) (fun v2 => []) dX0_copyFrom_19 mlX0_70 (kd0_4 h_a) rfl rfl rfl rfl rfl rfl (c_X3_copyFrom (d := d) (sb0_4_3 h_a) (sb0_4_3 h_b)) (fun _ => trivial) (fun _ => rfl) (fun v2 => ?_)
  refine ev_st (pc' := 30) (L' := [xR a, xR b]) (st' := [xR (b + 7), xR (a + 7)]) (fun _ _ _ k => e_aload_n dX0_copyFrom_22 rfl (i := 0) (x := a) rfl (e_getr dX0_copyFrom_23 flX0_28 (kd0_0 h_a) rfl (rf0_0_2 h_a) (e_aload_n dX0_copyFrom_26 rfl (i := 1) (x := b) rfl (e_getr dX0_copyFrom_27 flX0_28 (kd0_0 h_b) rfl (rf0_0_2 h_b) k)))) ?_
  refine ev_callV (As := [xR (b + 7)]) (st := []) (fun v3 => []) dX0_copyFrom_30 mlX0_73 (kd0_7 h_a) rfl rfl rfl rfl rfl rfl (c_X7_copyFrom (d := d) (sb0_7_7 h_a) (sb0_7_7 h_b)) (fun _ => trivial) (fun _ => rfl) (fun v3 => ?_)
  refine ev_st (pc' := 41) (L' := [xR a, xR b]) (st' := [xR (b + 11), xR (a + 11)]) (fun _ _ _ k => e_aload_n dX0_copyFrom_33 rfl (i := 0) (x := a) rfl (e_getr dX0_copyFrom_34 flX0_35 (kd0_0 h_a) rfl (rf0_0_3 h_a) (e_aload_n dX0_copyFrom_37 rfl (i := 1) (x := b) rfl (e_getr dX0_copyFrom_38 flX0_35 (kd0_0 h_b) rfl (rf0_0_3 h_b) k)))) ?_
  refine ev_callV (As := [xR (b + 11)]) (st := []) (fun v4 => []) dX0_copyFrom_41 mlX0_76 (kd0_11 h_a) rfl rfl rfl rfl rfl rfl (c_X4_copyFrom (d := d) (sb0_11_4 h_a) (sb0_11_4 h_b)) (fun _ => trivial) (fun _ => rfl) (fun v4 => ?_)
  refine ev_st (pc' := 58) (L' := [xR a, xR b]) (st' := []) (fun _ _ _ k => e_aload_n dX0_copyFrom_44 rfl (i := 1) (x := b) rfl (e_getr dX0_copyFrom_45 flX0_39 (kd0_0 h_b) rfl (rf0_0_4 h_b) (e_iconst dX0_copyFrom_48 (k4 rfl) (e_aload_n dX0_copyFrom_49 rfl (i := 0) (x := a) rfl (e_getr dX0_copyFrom_50 flX0_39 (kd0_0 h_a) rfl (rf0_0_4 h_a) (e_iconst dX0_copyFrom_53 (k4 rfl) (e_iconst dX0_copyFrom_54 (k4 rfl) (e_copy dX0_copyFrom_55 cw_340 cw_324 cw_323 cw_12 (kd0_13 h_b) (kd0_13 h_a) (by decide) (by decide) (by decide) (by decide) (by decide) rfl k)))))))) ?_
  refine ev_letR (fun R5 eR5 => ?_)
  refine ev_st (pc' := 66) (L' := [xR a, xR b]) (st' := []) (fun _ _ _ k => e_aload_n dX0_copyFrom_58 rfl (i := 0) (x := a) rfl (e_aload_n dX0_copyFrom_59 rfl (i := 1) (x := b) rfl (e_geti dX0_copyFrom_60 flX0_43 (kd0_0 h_b) (Or.inl rfl) (e_puti dX0_copyFrom_63 flX0_43 (kd0_0 h_a) (Or.inl rfl) rfl k)))) ?_
  refine ev_letR (fun R6 eR6 => ?_)
  refine ev_st (pc' := 74) (L' := [xR a, xR b]) (st' := []) (fun _ _ _ k => e_aload_n dX0_copyFrom_66 rfl (i := 0) (x := a) rfl (e_aload_n dX0_copyFrom_67 rfl (i := 1) (x := b) rfl (e_geti dX0_copyFrom_68 flX0_47 (kd0_0 h_b) (Or.inl rfl) (e_puti dX0_copyFrom_71 flX0_47 (kd0_0 h_a) (Or.inl rfl) rfl k)))) ?_
  refine ev_letR (fun R7 eR7 => ?_)
  refine ev_st (pc' := 82) (L' := [xR a, xR b]) (st' := []) (fun _ _ _ k => e_aload_n dX0_copyFrom_74 rfl (i := 0) (x := a) rfl (e_aload_n dX0_copyFrom_75 rfl (i := 1) (x := b) rfl (e_geti dX0_copyFrom_76 flX0_50 (kd0_0 h_b) (Or.inl rfl) (e_puti dX0_copyFrom_79 flX0_50 (kd0_0 h_a) (Or.inl rfl) rfl k)))) ?_
  refine ev_letR (fun R8 eR8 => ?_)
  refine ev_st (pc' := 90) (L' := [xR a, xR b]) (st' := []) (fun _ _ _ k => e_aload_n dX0_copyFrom_82 rfl (i := 0) (x := a) rfl (e_aload_n dX0_copyFrom_83 rfl (i := 1) (x := b) rfl (e_geti dX0_copyFrom_84 flX0_53 (kd0_0 h_b) (Or.inl rfl) (e_puti dX0_copyFrom_87 flX0_53 (kd0_0 h_a) (Or.inl rfl) rfl k)))) ?_
  refine ev_letR (fun R9 eR9 => ?_)
  refine ev_st (pc' := 98) (L' := [xR a, xR b]) (st' := []) (fun _ _ _ k => e_aload_n dX0_copyFrom_90 rfl (i := 0) (x := a) rfl (e_aload_n dX0_copyFrom_91 rfl (i := 1) (x := b) rfl (e_geti dX0_copyFrom_92 flX0_56 (kd0_0 h_b) (Or.inl rfl) (e_puti dX0_copyFrom_95 flX0_56 (kd0_0 h_a) (Or.inl rfl) rfl k)))) ?_
  refine ev_letR (fun R10 eR10 => ?_)
  exact ev_ret (e_vret dX0_copyFrom_98)
def f_X0_isFixed (a : Nat) (R : xN) : Option (Bool) :=
  if (R a 6) = 0 then
  if (R a 7) = 0 then
  some false
  else
  some true
  else
  some true
set_option maxRecDepth 20000 in
set_option maxHeartbeats 4000000 in
theorem c_X0_isFixed {l : Launch} {g : xG} {d : Nat} {A : xA} {R : xN} {a : Nat} (h_a : sh 0 A a)  : Ev l g (d) mX0_isFixed 0 [xR a] [] A R (fun v : Bool => some (xI (xz v))) (fun _ => R) (f_X0_isFixed a R) := by
  rw [f_X0_isFixed]
  refine ev_st (pc' := 4) (L' := [xR a]) (st' := [xI (R a 6)]) (fun _ _ _ k => e_aload_n dX0_isFixed_0 rfl (i := 0) (x := a) rfl (e_geti dX0_isFixed_1 flX0_47 (kd0_0 h_a) (Or.inl rfl) k)) ?_
  refine ev_br2 (P := (R a 6) = 0) (pct := 7) (pcf := 14) (st' := []) (fun _ _ _ kt kf => e_ifne dX0_isFixed_4 (tgt := 14) rfl kt kf) (fun h1 => ?_) (fun h1 => ?_)
  · refine ev_st (pc' := 11) (L' := [xR a]) (st' := [xI (R a 7)]) (fun _ _ _ k => e_aload_n dX0_isFixed_7 rfl (i := 0) (x := a) rfl (e_geti dX0_isFixed_8 flX0_50 (kd0_0 h_a) (Or.inl rfl) k)) ?_
    refine ev_br2 (P := (R a 7) = 0) (pct := 18) (pcf := 14) (st' := []) (fun _ _ _ kt kf => e_ifeq dX0_isFixed_11 (tgt := 18) rfl kt kf) (fun h2 => ?_) (fun h2 => ?_)
    · exact ev_ret (e_iconst dX0_isFixed_18 (k4 rfl) (e_iret dX0_isFixed_19))
    · exact ev_ret (e_iconst dX0_isFixed_14 (k4 rfl) (e_goto dX0_isFixed_15 (tgt := 19) rfl (e_iret dX0_isFixed_19)))
  · exact ev_ret (e_iconst dX0_isFixed_14 (k4 rfl) (e_goto dX0_isFixed_15 (tgt := 19) rfl (e_iret dX0_isFixed_19)))
def f_X0_isOpenAndFree (a : Nat) (R : xN) : Option (Bool) :=
  if (R (a + 4) 5) = 0 then
  (f_X0_isFixed a R).bind (fun v2 =>
  if v2 = true then
  some false
  else
  some true)
  else
  some false
set_option maxRecDepth 20000 in
set_option maxHeartbeats 4000000 in
theorem c_X0_isOpenAndFree {l : Launch} {g : xG} {d : Nat} {A : xA} {R : xN} {a : Nat} (h_a : sh 0 A a)  : Ev l g (d + 1) mX0_isOpenAndFree 0 [xR a] [] A R (fun v : Bool => some (xI (xz v))) (fun _ => R) (f_X0_isOpenAndFree a R) := by
  rw [f_X0_isOpenAndFree]
  refine ev_st (pc' := 7) (L' := [xR a]) (st' := [xI (R (a + 4) 5)]) (fun _ _ _ k => e_aload_n dX0_isOpenAndFree_0 rfl (i := 0) (x := a) rfl (e_getr dX0_isOpenAndFree_1 flX0_21 (kd0_0 h_a) rfl (rf0_0_1 h_a) (e_geti dX0_isOpenAndFree_4 flX0_85 (kd0_4 h_a) (Or.inl rfl) k))) ?_
  refine ev_br2 (P := (R (a + 4) 5) = 0) (pct := 10) (pcf := 21) (st' := []) (fun _ _ _ kt kf => e_ifne dX0_isOpenAndFree_7 (tgt := 21) rfl kt kf) (fun h1 => ?_) (fun h1 => ?_)
  · refine ev_st (pc' := 11) (L' := [xR a]) (st' := [xR a]) (fun _ _ _ k => e_aload_n dX0_isOpenAndFree_10 rfl (i := 0) (x := a) rfl k) ?_
    refine ev_callV (As := []) (st := []) (fun v2 => [xI (xz v2)]) dX0_isOpenAndFree_11 mlX0_88 (kd0_0 h_a) rfl rfl rfl rfl rfl rfl (c_X0_isFixed (d := d) h_a) (fun _ => xz01 _) (fun _ => rfl) (fun v2 => ?_)
    refine ev_br2 (P := v2 = true) (pct := 21) (pcf := 17) (st' := []) (fun _ _ _ kt kf => e_ifnez dX0_isOpenAndFree_14 (tgt := 21) rfl kt kf) (fun h3 => ?_) (fun h3 => ?_)
    · exact ev_ret (e_iconst dX0_isOpenAndFree_21 (k4 rfl) (e_iret dX0_isOpenAndFree_22))
    · exact ev_ret (e_iconst dX0_isOpenAndFree_17 (k4 rfl) (e_goto dX0_isOpenAndFree_18 (tgt := 22) rfl (e_iret dX0_isOpenAndFree_22)))
  · exact ev_ret (e_iconst dX0_isOpenAndFree_21 (k4 rfl) (e_iret dX0_isOpenAndFree_22))
def f_X9_isIn (i0 : Int) (i1 : Int) (i2 : Int) (R : xN) : Option (Bool) :=
  if i0 < i1 then
  some false
  else
  if i2 < i0 then
  some false
  else
  some true
set_option maxRecDepth 20000 in
set_option maxHeartbeats 4000000 in
theorem c_X9_isIn {l : Launch} {g : xG} {d : Nat} {A : xA} {R : xN}  (i0 : Int) (i1 : Int) (i2 : Int) : Ev l g (d) mX9_isIn 0 [xI i0, xI i1, xI i2] [] A R (fun v : Bool => some (xI (xz v))) (fun _ => R) (f_X9_isIn i0 i1 i2 R) := by
  rw [f_X9_isIn]
  refine ev_st (pc' := 2) (L' := [xI i0, xI i1, xI i2]) (st' := [xI i1, xI i0]) (fun _ _ _ k => e_iload_n dX9_isIn_0 rfl (i := 0) (x := i0) rfl (e_iload_n dX9_isIn_1 rfl (i := 1) (x := i1) rfl k)) ?_
  refine ev_br2 (P := i0 < i1) (pct := 14) (pcf := 5) (st' := []) (fun _ _ _ kt kf => e_clt dX9_isIn_2 (tgt := 14) rfl kt kf) (fun h1 => ?_) (fun h1 => ?_)
  · exact ev_ret (e_iconst dX9_isIn_14 (k4 rfl) (e_iret dX9_isIn_15))
  · refine ev_st (pc' := 7) (L' := [xI i0, xI i1, xI i2]) (st' := [xI i2, xI i0]) (fun _ _ _ k => e_iload_n dX9_isIn_5 rfl (i := 0) (x := i0) rfl (e_iload_n dX9_isIn_6 rfl (i := 2) (x := i2) rfl k)) ?_
    refine ev_br2 (P := i2 < i0) (pct := 14) (pcf := 10) (st' := []) (fun _ _ _ kt kf => e_cgt dX9_isIn_7 (tgt := 14) rfl kt kf) (fun h2 => ?_) (fun h2 => ?_)
    · exact ev_ret (e_iconst dX9_isIn_14 (k4 rfl) (e_iret dX9_isIn_15))
    · exact ev_ret (e_iconst dX9_isIn_10 (k4 rfl) (e_goto dX9_isIn_11 (tgt := 15) rfl (e_iret dX9_isIn_15)))
def f_X0_effortOf (a : Nat) (i0 : Int) (R : xN) : Option (Int) :=
  (f_X9_isIn i0 0 3 R).bind (fun v1 =>
  if v1 = true then
  if 0 ≤ i0 ∧ i0 < 4 then
  some (R (a + 13) (i0).toNat)
  else none
  else
  some 0)
set_option maxRecDepth 20000 in
set_option maxHeartbeats 4000000 in
theorem c_X0_effortOf {l : Launch} {g : xG} {d : Nat} {A : xA} {R : xN} {a : Nat} (h_a : sh 0 A a) (i0 : Int) : Ev l g (d + 1) mX0_effortOf 0 [xR a, xI i0] [] A R (fun v : Int => some (xI v)) (fun _ => R) (f_X0_effortOf a i0 R) := by
  rw [f_X0_effortOf]
  refine ev_st (pc' := 3) (L' := [xR a, xI i0]) (st' := [xI 3, xI 0, xI i0]) (fun _ _ _ k => e_iload_n dX0_effortOf_0 rfl (i := 1) (x := i0) rfl (e_iconst dX0_effortOf_1 (k4 rfl) (e_iconst dX0_effortOf_2 (k4 rfl) k))) ?_
  refine ev_callN (As := [xI i0, xI 0, xI 3]) (st := []) (fun v1 => [xI (xz v1)]) dX0_effortOf_3 mlX0_92 rfl rfl rfl rfl rfl rfl (c_X9_isIn (d := d) i0 0 3) (fun _ => xz01 _) (fun _ => rfl) (fun v1 => ?_)
  refine ev_br2 (P := v1 = true) (pct := 9) (pcf := 18) (st' := []) (fun _ _ _ kt kf => e_ifeqz dX0_effortOf_6 (tgt := 18) rfl kt kf) (fun h2 => ?_) (fun h2 => ?_)
  · refine ev_st (pc' := 14) (L' := [xR a, xI i0]) (st' := [xI i0, xR (a + 13)]) (fun _ _ _ k => e_aload_n dX0_effortOf_9 rfl (i := 0) (x := a) rfl (e_getr dX0_effortOf_10 flX0_39 (kd0_0 h_a) rfl (rf0_0_4 h_a) (e_iload_n dX0_effortOf_13 rfl (i := 1) (x := i0) rfl k))) ?_
    refine ev_chk (fun h3 => ?_)
    refine ev_st (pc' := 15) (L' := [xR a, xI i0]) (st' := [xI (R (a + 13) (i0).toNat)]) (fun _ _ _ k => e_iald dX0_effortOf_14 (kd0_13 h_a) h3.1 h3.2 k) ?_
    exact ev_ret (e_goto dX0_effortOf_15 (tgt := 19) rfl (e_iret dX0_effortOf_19))
  · exact ev_ret (e_iconst dX0_effortOf_18 (k4 rfl) (e_iret dX0_effortOf_19))
def f_X0_isLength (i0 : Int) (R : xN) : Option (Bool) :=
  if i0 = 1 then
  some true
  else
  if i0 = 2 then
  some true
  else
  if i0 = 4 then
  some true
  else
  some false
set_option maxRecDepth 20000 in
set_option maxHeartbeats 4000000 in
theorem c_X0_isLength {l : Launch} {g : xG} {d : Nat} {A : xA} {R : xN}  (i0 : Int) : Ev l g (d) mX0_isLength 0 [xI i0] [] A R (fun v : Bool => some (xI (xz v))) (fun _ => R) (f_X0_isLength i0 R) := by
  rw [f_X0_isLength]
  refine ev_st (pc' := 2) (L' := [xI i0]) (st' := [xI 1, xI i0]) (fun _ _ _ k => e_iload_n dX0_isLength_0 rfl (i := 0) (x := i0) rfl (e_iconst dX0_isLength_1 (k4 rfl) k)) ?_
  refine ev_br2 (P := i0 = 1) (pct := 15) (pcf := 5) (st' := []) (fun _ _ _ kt kf => e_ceq dX0_isLength_2 (tgt := 15) rfl kt kf) (fun h1 => ?_) (fun h1 => ?_)
  · exact ev_ret (e_iconst dX0_isLength_15 (k4 rfl) (e_goto dX0_isLength_16 (tgt := 20) rfl (e_iret dX0_isLength_20)))
  · refine ev_st (pc' := 7) (L' := [xI i0]) (st' := [xI 2, xI i0]) (fun _ _ _ k => e_iload_n dX0_isLength_5 rfl (i := 0) (x := i0) rfl (e_iconst dX0_isLength_6 (k4 rfl) k)) ?_
    refine ev_br2 (P := i0 = 2) (pct := 15) (pcf := 10) (st' := []) (fun _ _ _ kt kf => e_ceq dX0_isLength_7 (tgt := 15) rfl kt kf) (fun h2 => ?_) (fun h2 => ?_)
    · exact ev_ret (e_iconst dX0_isLength_15 (k4 rfl) (e_goto dX0_isLength_16 (tgt := 20) rfl (e_iret dX0_isLength_20)))
    · refine ev_st (pc' := 12) (L' := [xI i0]) (st' := [xI 4, xI i0]) (fun _ _ _ k => e_iload_n dX0_isLength_10 rfl (i := 0) (x := i0) rfl (e_iconst dX0_isLength_11 (k4 rfl) k)) ?_
      refine ev_br2 (P := i0 = 4) (pct := 15) (pcf := 19) (st' := []) (fun _ _ _ kt kf => e_cne dX0_isLength_12 (tgt := 19) rfl kt kf) (fun h3 => ?_) (fun h3 => ?_)
      · exact ev_ret (e_iconst dX0_isLength_15 (k4 rfl) (e_goto dX0_isLength_16 (tgt := 20) rfl (e_iret dX0_isLength_20)))
      · exact ev_ret (e_iconst dX0_isLength_19 (k4 rfl) (e_iret dX0_isLength_20))
def lp_J7_fill_53178_5 (a : Nat) (n_a : Nat) (p1 : Int) (p3 : Int) : Nat → Int → xN → (Int → xN → Option (xN)) → Option (xN)
  | 0, _, _, _ => none
  | n + 1, y2, R, X =>
    if p3 ≤ y2 then
    X y2 R
    else
    if 0 ≤ y2 ∧ y2 < (n_a : Int) then
    xlet (xup R a (y2).toNat p1) (fun R5 =>
    xlet (w4 (y2 + 1)) (fun x6 =>
    lp_J7_fill_53178_5 a n_a p1 p3 n x6 R5 X))
    else none
def f_J7_fill_53178 (a : Nat) (n_a : Nat) (i1 : Int) (R : xN) : Option (xN) :=
  if (n_a : Int) ≤ 2147483647 then
  xlet (n_a : Int) (fun x2 =>
  lp_J7_fill_53178_5 a n_a i1 x2 6000 0 R (fun z7 R8 =>
  some R8))
  else none
set_option maxRecDepth 20000 in
set_option maxHeartbeats 4000000 in
theorem lc_J7_fill_53178_5 {l : Launch} {g : xG} {d : Nat} {A : xA} {a n_a : Nat} (h_a : A.1 a = (1, n_a)) (p1 : Int) (p3 : Int) {X : Int → xN → Option (xN)} (hX : ∀ (y2 : Int) (R : xN), Ev l g (d) mJ7_fill_53178 20 [xU, xU, xU, xU] [] A R (fun _ : xN => none) (fun v => v) (X y2 R)) (n : Nat) (y2 : Int) (R : xN) : Ev l g (d) mJ7_fill_53178 5 [xR a, xI p1, xI y2, xI p3] [] A R (fun _ : xN => none) (fun v => v) (lp_J7_fill_53178_5 a n_a p1 p3 n y2 R X) := by
  induction n generalizing y2 R with
  | zero => exact ev_none
  | succ n ih =>
    rw [lp_J7_fill_53178_5]
    refine ev_st (pc' := 7) (L' := [xR a, xI p1, xI y2, xI p3]) (st' := [xI p3, xI y2]) (fun _ _ _ k => e_iload_n dJ7_fill_53178_5 rfl (i := 2) (x := y2) rfl (e_iload_n dJ7_fill_53178_6 rfl (i := 3) (x := p3) rfl k)) ?_
    refine ev_br2 (P := p3 ≤ y2) (pct := 20) (pcf := 10) (st' := []) (fun _ _ _ kt kf => e_cge dJ7_fill_53178_7 (tgt := 20) rfl kt kf) (fun h3 => ?_) (fun h3 => ?_)
    · refine ev_st (pc' := 20) (L' := [xU, xU, xU, xU]) (st' := []) (fun _ _ _ k => e_fg [0, 1, 2, 3] k) ?_
      exact hX y2 R
    · refine ev_st (pc' := 13) (L' := [xR a, xI p1, xI y2, xI p3]) (st' := [xI p1, xI y2, xR a]) (fun _ _ _ k => e_aload_n dJ7_fill_53178_10 rfl (i := 0) (x := a) rfl (e_iload_n dJ7_fill_53178_11 rfl (i := 2) (x := y2) rfl (e_iload_n dJ7_fill_53178_12 rfl (i := 1) (x := p1) rfl k))) ?_
      refine ev_chk (fun h4 => ?_)
      refine ev_st (pc' := 14) (L' := [xR a, xI p1, xI y2, xI p3]) (st' := []) (fun _ _ _ k => e_iast dJ7_fill_53178_13 h_a h4.1 h4.2 k) ?_
      refine ev_letR (fun R5 eR5 => ?_)
      refine ev_letx (fun x6 ex6 => ?_)
      refine ev_st (pc' := 17) (L' := [xR a, xI p1, xI x6, xI p3]) (st' := []) (fun _ _ _ k => e_iinc dJ7_fill_53178_14 (i := 2) rfl (x := y2) rfl (y := x6) ex6 (L' := [xR a, xI p1, xI x6, xI p3]) rfl k) ?_
      refine ev_st (pc' := 5) (L' := [xR a, xI p1, xI x6, xI p3]) (st' := []) (fun _ _ _ k => e_goto dJ7_fill_53178_17 (tgt := 5) rfl k) ?_
      exact ih x6 R5
set_option maxRecDepth 20000 in
set_option maxHeartbeats 4000000 in
theorem c_J7_fill_53178 {l : Launch} {g : xG} {d : Nat} {A : xA} {R : xN} {a n_a : Nat} (h_a : A.1 a = (1, n_a)) (i1 : Int) : Ev l g (d) mJ7_fill_53178 0 [xR a, xI i1, xU, xU] [] A R (fun _ : xN => none) (fun v => v) (f_J7_fill_53178 a n_a i1 R) := by
  rw [f_J7_fill_53178]
  refine ev_st (pc' := 3) (L' := [xR a, xI i1, xI 0, xU]) (st' := [xR a]) (fun _ _ _ k => e_iconst dJ7_fill_53178_0 (k4 rfl) (e_istore_n dJ7_fill_53178_1 rfl (i := 2) rfl (L' := [xR a, xI i1, xI 0, xU]) rfl (e_aload_n dJ7_fill_53178_2 rfl (i := 0) (x := a) rfl k))) ?_
  refine ev_chk (fun h1 => ?_)
  refine ev_st (pc' := 4) (L' := [xR a, xI i1, xI 0, xU]) (st' := [xI (n_a : Int)]) (fun _ _ _ k => e_alen dJ7_fill_53178_3 h_a (k4n h1) k) ?_
  refine ev_leti (fun x2 ex2 => ?_)
  refine ev_st (pc' := 5) (L' := [xR a, xI i1, xI 0, xI x2]) (st' := []) (fun _ _ _ k => e_istore_n dJ7_fill_53178_4 rfl (i := 3) rfl (L' := [xR a, xI i1, xI 0, xI x2]) rfl k) ?_
  refine lc_J7_fill_53178_5 h_a i1 x2 (fun z7 R8 => ?_) 6000 0 R
  exact ev_ret (e_vret dJ7_fill_53178_20)
def f_X5_renew (a : Nat) (i0 : Int) (i1 : Int) (R : xN) : Option (xN) :=
  xlet (xup R a 0 i0) (fun R1 =>
  xlet (xup R1 a 1 i1) (fun R2 =>
  (f_J7_fill_53178 (a + 1) 32 (-9) R2).bind (fun v3 =>
  (f_J7_fill_53178 (a + 2) 32 0 v3).bind (fun v4 =>
  some v4))))
set_option maxRecDepth 20000 in
set_option maxHeartbeats 4000000 in
theorem c_X5_renew {l : Launch} {g : xG} {d : Nat} {A : xA} {R : xN} {a : Nat} (h_a : sh 5 A a) (i0 : Int) (i1 : Int) : Ev l g (d + 1) mX5_renew 0 [xR a, xI i0, xI i1] [] A R (fun _ : xN => none) (fun v => v) (f_X5_renew a i0 i1 R) := by
  rw [f_X5_renew]
  refine ev_st (pc' := 5) (L' := [xR a, xI i0, xI i1]) (st' := []) (fun _ _ _ k => e_aload_n dX5_renew_0 rfl (i := 0) (x := a) rfl (e_iload_n dX5_renew_1 rfl (i := 1) (x := i0) rfl (e_puti dX5_renew_2 flX5_9 (kd5_0 h_a) (Or.inl rfl) rfl k))) ?_
  refine ev_letR (fun R1 eR1 => ?_)
  refine ev_st (pc' := 10) (L' := [xR a, xI i0, xI i1]) (st' := []) (fun _ _ _ k => e_aload_n dX5_renew_5 rfl (i := 0) (x := a) rfl (e_iload_n dX5_renew_6 rfl (i := 2) (x := i1) rfl (e_puti dX5_renew_7 flX5_15 (kd5_0 h_a) (Or.inl rfl) rfl k))) ?_
  refine ev_letR (fun R2 eR2 => ?_)
  refine ev_st (pc' := 16) (L' := [xR a, xI i0, xI i1]) (st' := [xI (-9), xR (a + 1)]) (fun _ _ _ k => e_aload_n dX5_renew_10 rfl (i := 0) (x := a) rfl (e_getr dX5_renew_11 flX5_18 (kd5_0 h_a) rfl (rf5_0_2 h_a) (e_bipush dX5_renew_14 rfl (k4 rfl) k))) ?_
  refine ev_callS (As := [xR (a + 1), xI (-9)]) (st := []) (fun v3 => []) dX5_renew_16 mlX5_31 rfl rfl rfl rfl rfl rfl (c_J7_fill_53178 (d := d) (kd5_1 h_a) (-9)) (fun _ => trivial) (fun _ => rfl) (fun v3 => ?_)
  refine ev_st (pc' := 24) (L' := [xR a, xI i0, xI i1]) (st' := [xI 0, xR (a + 2)]) (fun _ _ _ k => e_aload_n dX5_renew_19 rfl (i := 0) (x := a) rfl (e_getr dX5_renew_20 flX5_22 (kd5_0 h_a) rfl (rf5_0_3 h_a) (e_iconst dX5_renew_23 (k4 rfl) k))) ?_
  refine ev_callS (As := [xR (a + 2), xI 0]) (st := []) (fun v4 => []) dX5_renew_24 mlX5_31 rfl rfl rfl rfl rfl rfl (c_J7_fill_53178 (d := d) (kd5_2 h_a) 0) (fun _ => trivial) (fun _ => rfl) (fun v4 => ?_)
  exact ev_ret (e_vret dX5_renew_27)
def f_X9_cellAt (i0 : Int) (i1 : Int) (R : xN) : Option (Int) :=
  some (w4 ((w4 (i0 * 4)) + i1))
set_option maxRecDepth 20000 in
set_option maxHeartbeats 4000000 in
theorem c_X9_cellAt {l : Launch} {g : xG} {d : Nat} {A : xA} {R : xN}  (i0 : Int) (i1 : Int) : Ev l g (d) mX9_cellAt 0 [xI i0, xI i1] [] A R (fun v : Int => some (xI v)) (fun _ => R) (f_X9_cellAt i0 i1 R) := by
  rw [f_X9_cellAt]
  exact ev_ret (e_iload_n dX9_cellAt_0 rfl (i := 0) (x := i0) rfl (e_iconst dX9_cellAt_1 (k4 rfl) (e_imul dX9_cellAt_2 (e_iload_n dX9_cellAt_3 rfl (i := 1) (x := i1) rfl (e_iadd dX9_cellAt_4 (e_iret dX9_cellAt_5))))))
def lp_X3_spread_32 (a : Nat) : Nat → Int → xN → (Int → xN → Option (xN)) → Option (xN)
  | 0, _, _, _ => none
  | n + 1, y3, R, X =>
    if 16 ≤ y3 then
    X y3 R
    else
    if (w4 ((R a 2) * (R a 3))) ≤ y3 then
    X y3 R
    else
    if 1 ≤ (R a 3) then
    if (R a 3) ≠ 0 then
    if (R a 3) ≠ 0 then
    (f_X9_cellAt (w4 (Int.tdiv y3 (R a 3))) (Int.tmod y3 (R a 3)) R).bind (fun v12 =>
    if 0 ≤ y3 ∧ y3 < 16 then
    xlet (xup R (a + 1) (y3).toNat v12) (fun R14 =>
    xlet (w4 (y3 + 1)) (fun x15 =>
    lp_X3_spread_32 a n x15 R14 X))
    else none)
    else none
    else none
    else
    if 0 ≤ y3 ∧ y3 < 16 then
    xlet (xup R (a + 1) (y3).toNat 0) (fun R17 =>
    xlet (w4 (y3 + 1)) (fun x18 =>
    lp_X3_spread_32 a n x18 R17 X))
    else none
def f_X3_spread (a : Nat) (i0 : Int) (i1 : Int) (R : xN) : Option (xN) :=
  xlet (xup R a 0 i0) (fun R1 =>
  xlet (xup R1 a 1 i1) (fun R2 =>
  xlet (xup R2 a 2 i0) (fun R3 =>
  xlet (xup R3 a 3 i1) (fun R4 =>
  xlet (xup R4 a 4 0) (fun R5 =>
  xlet (xup R5 a 5 0) (fun R6 =>
  lp_X3_spread_32 a 6000 0 R6 (fun z19 R20 =>
  some R20)))))))
set_option maxRecDepth 20000 in
set_option maxHeartbeats 4000000 in
theorem lc_X3_spread_32 {l : Launch} {g : xG} {d : Nat} {A : xA} {a : Nat} (h_a : sh 3 A a)  {X : Int → xN → Option (xN)} (hX : ∀ (y3 : Int) (R : xN), Ev l g (d + 1) mX3_spread 90 [xU, xU, xU, xU] [] A R (fun _ : xN => none) (fun v => v) (X y3 R)) (n : Nat) (y3 : Int) (R : xN) : Ev l g (d + 1) mX3_spread 32 [xR a, xU, xU, xI y3] [] A R (fun _ : xN => none) (fun v => v) (lp_X3_spread_32 a n y3 R X) := by
  induction n generalizing y3 R with
  | zero => exact ev_none
  | succ n ih =>
    rw [lp_X3_spread_32]
    refine ev_st (pc' := 35) (L' := [xR a, xU, xU, xI y3]) (st' := [xI 16, xI y3]) (fun _ _ _ k => e_iload_n dX3_spread_32 rfl (i := 3) (x := y3) rfl (e_bipush dX3_spread_33 rfl (k4 rfl) k)) ?_
    refine ev_br2 (P := 16 ≤ y3) (pct := 90) (pcf := 38) (st' := []) (fun _ _ _ kt kf => e_cge dX3_spread_35 (tgt := 90) rfl kt kf) (fun h7 => ?_) (fun h7 => ?_)
    · refine ev_st (pc' := 90) (L' := [xU, xU, xU, xU]) (st' := []) (fun _ _ _ k => e_fg [0, 3] k) ?_
      exact hX y3 R
    · refine ev_st (pc' := 48) (L' := [xR a, xU, xU, xI y3]) (st' := [xI (w4 ((R a 2) * (R a 3))), xI y3]) (fun _ _ _ k => e_iload_n dX3_spread_38 rfl (i := 3) (x := y3) rfl (e_aload_n dX3_spread_39 rfl (i := 0) (x := a) rfl (e_geti dX3_spread_40 flX3_18 (kd3_0 h_a) (Or.inl rfl) (e_aload_n dX3_spread_43 rfl (i := 0) (x := a) rfl (e_geti dX3_spread_44 flX3_21 (kd3_0 h_a) (Or.inl rfl) (e_imul dX3_spread_47 k)))))) ?_
      refine ev_br2 (P := (w4 ((R a 2) * (R a 3))) ≤ y3) (pct := 90) (pcf := 51) (st' := []) (fun _ _ _ kt kf => e_cge dX3_spread_48 (tgt := 90) rfl kt kf) (fun h8 => ?_) (fun h8 => ?_)
      · refine ev_st (pc' := 90) (L' := [xU, xU, xU, xU]) (st' := []) (fun _ _ _ k => e_fg [0, 3] k) ?_
        exact hX y3 R
      · refine ev_st (pc' := 61) (L' := [xR a, xU, xU, xI y3]) (st' := [xI 1, xI (R a 3), xI y3, xR (a + 1)]) (fun _ _ _ k => e_aload_n dX3_spread_51 rfl (i := 0) (x := a) rfl (e_getr dX3_spread_52 flX3_30 (kd3_0 h_a) rfl (rf3_0_6 h_a) (e_iload_n dX3_spread_55 rfl (i := 3) (x := y3) rfl (e_aload_n dX3_spread_56 rfl (i := 0) (x := a) rfl (e_geti dX3_spread_57 flX3_21 (kd3_0 h_a) (Or.inl rfl) (e_iconst dX3_spread_60 (k4 rfl) k)))))) ?_
        refine ev_br2 (P := 1 ≤ (R a 3)) (pct := 68) (pcf := 64) (st' := [xI y3, xR (a + 1)]) (fun _ _ _ kt kf => e_cge dX3_spread_61 (tgt := 68) rfl kt kf) (fun h9 => ?_) (fun h9 => ?_)
        · refine ev_st (pc' := 73) (L' := [xR a, xU, xU, xI y3]) (st' := [xI (R a 3), xI y3, xI y3, xR (a + 1)]) (fun _ _ _ k => e_iload_n dX3_spread_68 rfl (i := 3) (x := y3) rfl (e_aload_n dX3_spread_69 rfl (i := 0) (x := a) rfl (e_geti dX3_spread_70 flX3_21 (kd3_0 h_a) (Or.inl rfl) k))) ?_
          refine ev_chk (fun h10 => ?_)
          refine ev_st (pc' := 74) (L' := [xR a, xU, xU, xI y3]) (st' := [xI (w4 (Int.tdiv y3 (R a 3))), xI y3, xR (a + 1)]) (fun _ _ _ k => e_idiv dX3_spread_73 h10 k) ?_
          refine ev_st (pc' := 79) (L' := [xR a, xU, xU, xI y3]) (st' := [xI (R a 3), xI y3, xI (w4 (Int.tdiv y3 (R a 3))), xI y3, xR (a + 1)]) (fun _ _ _ k => e_iload_n dX3_spread_74 rfl (i := 3) (x := y3) rfl (e_aload_n dX3_spread_75 rfl (i := 0) (x := a) rfl (e_geti dX3_spread_76 flX3_21 (kd3_0 h_a) (Or.inl rfl) k))) ?_
          refine ev_chk (fun h11 => ?_)
          refine ev_st (pc' := 80) (L' := [xR a, xU, xU, xI y3]) (st' := [xI (Int.tmod y3 (R a 3)), xI (w4 (Int.tdiv y3 (R a 3))), xI y3, xR (a + 1)]) (fun _ _ _ k => e_irem dX3_spread_79 h11 k) ?_
          refine ev_callN (As := [xI (w4 (Int.tdiv y3 (R a 3))), xI (Int.tmod y3 (R a 3))]) (st := [xI y3, xR (a + 1)]) (fun v12 => [xI v12, xI y3, xR (a + 1)]) dX3_spread_80 mlX3_43 rfl rfl rfl rfl rfl rfl (c_X9_cellAt (d := d) (w4 (Int.tdiv y3 (R a 3))) (Int.tmod y3 (R a 3))) (fun _ => trivial) (fun _ => rfl) (fun v12 => ?_)
          refine ev_chk (fun h13 => ?_)
          refine ev_st (pc' := 84) (L' := [xR a, xU, xU, xI y3]) (st' := []) (fun _ _ _ k => e_iast dX3_spread_83 (kd3_1 h_a) h13.1 h13.2 k) ?_
          refine ev_letR (fun R14 eR14 => ?_)
          refine ev_letx (fun x15 ex15 => ?_)
          refine ev_st (pc' := 87) (L' := [xR a, xU, xU, xI x15]) (st' := []) (fun _ _ _ k => e_iinc dX3_spread_84 (i := 3) rfl (x := y3) rfl (y := x15) ex15 (L' := [xR a, xU, xU, xI x15]) rfl k) ?_
          refine ev_st (pc' := 32) (L' := [xR a, xU, xU, xI x15]) (st' := []) (fun _ _ _ k => e_goto dX3_spread_87 (tgt := 32) rfl k) ?_
          exact ih x15 R14
        · refine ev_st (pc' := 83) (L' := [xR a, xU, xU, xI y3]) (st' := [xI 0, xI y3, xR (a + 1)]) (fun _ _ _ k => e_iconst dX3_spread_64 (k4 rfl) (e_goto dX3_spread_65 (tgt := 83) rfl k)) ?_
          refine ev_chk (fun h16 => ?_)
          refine ev_st (pc' := 84) (L' := [xR a, xU, xU, xI y3]) (st' := []) (fun _ _ _ k => e_iast dX3_spread_83 (kd3_1 h_a) h16.1 h16.2 k) ?_
          refine ev_letR (fun R17 eR17 => ?_)
          refine ev_letx (fun x18 ex18 => ?_)
          refine ev_st (pc' := 87) (L' := [xR a, xU, xU, xI x18]) (st' := []) (fun _ _ _ k => e_iinc dX3_spread_84 (i := 3) rfl (x := y3) rfl (y := x18) ex18 (L' := [xR a, xU, xU, xI x18]) rfl k) ?_
          refine ev_st (pc' := 32) (L' := [xR a, xU, xU, xI x18]) (st' := []) (fun _ _ _ k => e_goto dX3_spread_87 (tgt := 32) rfl k) ?_
          exact ih x18 R17
set_option maxRecDepth 20000 in
set_option maxHeartbeats 4000000 in
theorem c_X3_spread {l : Launch} {g : xG} {d : Nat} {A : xA} {R : xN} {a : Nat} (h_a : sh 3 A a) (i0 : Int) (i1 : Int) : Ev l g (d + 1) mX3_spread 0 [xR a, xI i0, xI i1, xU] [] A R (fun _ : xN => none) (fun v => v) (f_X3_spread a i0 i1 R) := by
  rw [f_X3_spread]
  refine ev_st (pc' := 5) (L' := [xR a, xI i0, xI i1, xU]) (st' := []) (fun _ _ _ k => e_aload_n dX3_spread_0 rfl (i := 0) (x := a) rfl (e_iload_n dX3_spread_1 rfl (i := 1) (x := i0) rfl (e_puti dX3_spread_2 flX3_9 (kd3_0 h_a) (Or.inl rfl) rfl k))) ?_
  refine ev_letR (fun R1 eR1 => ?_)
  refine ev_st (pc' := 10) (L' := [xR a, xI i0, xI i1, xU]) (st' := []) (fun _ _ _ k => e_aload_n dX3_spread_5 rfl (i := 0) (x := a) rfl (e_iload_n dX3_spread_6 rfl (i := 2) (x := i1) rfl (e_puti dX3_spread_7 flX3_15 (kd3_0 h_a) (Or.inl rfl) rfl k))) ?_
  refine ev_letR (fun R2 eR2 => ?_)
  refine ev_st (pc' := 15) (L' := [xR a, xI i0, xI i1, xU]) (st' := []) (fun _ _ _ k => e_aload_n dX3_spread_10 rfl (i := 0) (x := a) rfl (e_iload_n dX3_spread_11 rfl (i := 1) (x := i0) rfl (e_puti dX3_spread_12 flX3_18 (kd3_0 h_a) (Or.inl rfl) rfl k))) ?_
  refine ev_letR (fun R3 eR3 => ?_)
  refine ev_st (pc' := 20) (L' := [xR a, xI i0, xI i1, xU]) (st' := []) (fun _ _ _ k => e_aload_n dX3_spread_15 rfl (i := 0) (x := a) rfl (e_iload_n dX3_spread_16 rfl (i := 2) (x := i1) rfl (e_puti dX3_spread_17 flX3_21 (kd3_0 h_a) (Or.inl rfl) rfl k))) ?_
  refine ev_letR (fun R4 eR4 => ?_)
  refine ev_st (pc' := 25) (L' := [xR a, xI i0, xI i1, xU]) (st' := []) (fun _ _ _ k => e_aload_n dX3_spread_20 rfl (i := 0) (x := a) rfl (e_iconst dX3_spread_21 (k4 rfl) (e_puti dX3_spread_22 flX3_24 (kd3_0 h_a) (Or.inl rfl) rfl k))) ?_
  refine ev_letR (fun R5 eR5 => ?_)
  refine ev_st (pc' := 30) (L' := [xR a, xI i0, xI i1, xU]) (st' := []) (fun _ _ _ k => e_aload_n dX3_spread_25 rfl (i := 0) (x := a) rfl (e_iconst dX3_spread_26 (k4 rfl) (e_puti dX3_spread_27 flX3_27 (kd3_0 h_a) (Or.inl rfl) rfl k))) ?_
  refine ev_letR (fun R6 eR6 => ?_)
  refine ev_st (pc' := 32) (L' := [xR a, xU, xU, xI 0]) (st' := []) (fun _ _ _ k => e_iconst dX3_spread_30 (k4 rfl) (e_istore_n dX3_spread_31 rfl (i := 3) rfl (L' := [xR a, xI i0, xI i1, xI 0]) rfl (e_fg [1, 2] k))) ?_
  refine lc_X3_spread_32 h_a (fun z19 R20 => ?_) 6000 0 R6
  exact ev_ret (e_vret dX3_spread_90)
def f_X7_dropAll (a : Nat) (R : xN) : Option (Int × xN) :=
  xlet (R a 3) (fun x1 =>
  xlet (xup R a 3 0) (fun R2 =>
  some (x1, R2)))
set_option maxRecDepth 20000 in
set_option maxHeartbeats 4000000 in
theorem c_X7_dropAll {l : Launch} {g : xG} {d : Nat} {A : xA} {R : xN} {a : Nat} (h_a : sh 7 A a)  : Ev l g (d) mX7_dropAll 0 [xR a, xU] [] A R (fun v : Int × xN => some (xI v.1)) (fun v => v.2) (f_X7_dropAll a R) := by
  rw [f_X7_dropAll]
  refine ev_st (pc' := 4) (L' := [xR a, xU]) (st' := [xI (R a 3)]) (fun _ _ _ k => e_aload_n dX7_dropAll_0 rfl (i := 0) (x := a) rfl (e_geti dX7_dropAll_1 flX7_21 (kd7_0 h_a) (Or.inl rfl) k)) ?_
  refine ev_leti (fun x1 ex1 => ?_)
  refine ev_st (pc' := 5) (L' := [xR a, xI x1]) (st' := []) (fun _ _ _ k => e_istore_n dX7_dropAll_4 rfl (i := 1) rfl (L' := [xR a, xI x1]) rfl k) ?_
  refine ev_st (pc' := 10) (L' := [xR a, xI x1]) (st' := []) (fun _ _ _ k => e_aload_n dX7_dropAll_5 rfl (i := 0) (x := a) rfl (e_iconst dX7_dropAll_6 (k4 rfl) (e_puti dX7_dropAll_7 flX7_21 (kd7_0 h_a) (Or.inl rfl) rfl k))) ?_
  refine ev_letR (fun R2 eR2 => ?_)
  exact ev_ret (e_iload_n dX7_dropAll_10 rfl (i := 1) (x := x1) rfl (e_iret dX7_dropAll_11))
def f_X0_takeSheet (a : Nat) (i0 : Int) (i1 : Int) (R : xN) : Option (Int × xN) :=
  (f_X0_isLength i0 R).bind (fun v1 =>
  if v1 = true then
  (f_X0_isLength i1 R).bind (fun v3 =>
  if v3 = true then
  (f_X5_renew (a + 1) i0 i1 R).bind (fun v5 =>
  (f_X3_spread (a + 4) i0 i1 v5).bind (fun v6 =>
  (f_X7_dropAll (a + 7) v6).bind (fun v7 =>
  xlet (xup v7.2 a 6 0) (fun R8 =>
  xlet (xup R8 a 7 0) (fun R9 =>
  some ((w4 (i0 * i1)), R9))))))
  else
  some ((-1), R))
  else
  some ((-1), R))
set_option maxRecDepth 20000 in
set_option maxHeartbeats 4000000 in
theorem c_X0_takeSheet {l : Launch} {g : xG} {d : Nat} {A : xA} {R : xN} {a : Nat} (h_a : sh 0 A a) (i0 : Int) (i1 : Int) : Ev l g (d + 2) mX0_takeSheet 0 [xR a, xI i0, xI i1] [] A R (fun v : Int × xN => some (xI v.1)) (fun v => v.2) (f_X0_takeSheet a i0 i1 R) := by
  rw [f_X0_takeSheet]
  refine ev_st (pc' := 1) (L' := [xR a, xI i0, xI i1]) (st' := [xI i0]) (fun _ _ _ k => e_iload_n dX0_takeSheet_0 rfl (i := 1) (x := i0) rfl k) ?_
  refine ev_callS (As := [xI i0]) (st := []) (fun v1 => [xI (xz v1)]) dX0_takeSheet_1 mlX0_96 rfl rfl rfl rfl rfl rfl (c_X0_isLength (d := d + 1) i0) (fun _ => xz01 _) (fun _ => rfl) (fun v1 => ?_)
  refine ev_br2 (P := v1 = true) (pct := 7) (pcf := 14) (st' := []) (fun _ _ _ kt kf => e_ifeqz dX0_takeSheet_4 (tgt := 14) rfl kt kf) (fun h2 => ?_) (fun h2 => ?_)
  · refine ev_st (pc' := 8) (L' := [xR a, xI i0, xI i1]) (st' := [xI i1]) (fun _ _ _ k => e_iload_n dX0_takeSheet_7 rfl (i := 2) (x := i1) rfl k) ?_
    refine ev_callS (As := [xI i1]) (st := []) (fun v3 => [xI (xz v3)]) dX0_takeSheet_8 mlX0_96 rfl rfl rfl rfl rfl rfl (c_X0_isLength (d := d + 1) i1) (fun _ => xz01 _) (fun _ => rfl) (fun v3 => ?_)
    refine ev_br2 (P := v3 = true) (pct := 16) (pcf := 14) (st' := []) (fun _ _ _ kt kf => e_ifnez dX0_takeSheet_11 (tgt := 16) rfl kt kf) (fun h4 => ?_) (fun h4 => ?_)
    · refine ev_st (pc' := 22) (L' := [xR a, xI i0, xI i1]) (st' := [xI i1, xI i0, xR (a + 1)]) (fun _ _ _ k => e_aload_n dX0_takeSheet_16 rfl (i := 0) (x := a) rfl (e_getr dX0_takeSheet_17 flX0_12 (kd0_0 h_a) rfl (rf0_0_0 h_a) (e_iload_n dX0_takeSheet_20 rfl (i := 1) (x := i0) rfl (e_iload_n dX0_takeSheet_21 rfl (i := 2) (x := i1) rfl k)))) ?_
      refine ev_callV (As := [xI i0, xI i1]) (st := []) (fun v5 => []) dX0_takeSheet_22 mlX0_59 (kd0_1 h_a) rfl rfl rfl rfl rfl rfl (c_X5_renew (d := d) (sb0_1_5 h_a) i0 i1) (fun _ => trivial) (fun _ => rfl) (fun v5 => ?_)
      refine ev_st (pc' := 31) (L' := [xR a, xI i0, xI i1]) (st' := [xI i1, xI i0, xR (a + 4)]) (fun _ _ _ k => e_aload_n dX0_takeSheet_25 rfl (i := 0) (x := a) rfl (e_getr dX0_takeSheet_26 flX0_21 (kd0_0 h_a) rfl (rf0_0_1 h_a) (e_iload_n dX0_takeSheet_29 rfl (i := 1) (x := i0) rfl (e_iload_n dX0_takeSheet_30 rfl (i := 2) (x := i1) rfl k)))) ?_
      refine ev_callV (As := [xI i0, xI i1]) (st := []) (fun v6 => []) dX0_takeSheet_31 mlX0_63 (kd0_4 h_a) rfl rfl rfl rfl rfl rfl (c_X3_spread (d := d) (sb0_4_3 h_a) i0 i1) (fun _ => trivial) (fun _ => rfl) (fun v6 => ?_)
      refine ev_st (pc' := 38) (L' := [xR a, xI i0, xI i1]) (st' := [xR (a + 7)]) (fun _ _ _ k => e_aload_n dX0_takeSheet_34 rfl (i := 0) (x := a) rfl (e_getr dX0_takeSheet_35 flX0_28 (kd0_0 h_a) rfl (rf0_0_2 h_a) k)) ?_
      refine ev_callV (As := []) (st := []) (fun v7 => [xI v7.1]) dX0_takeSheet_38 mlX0_100 (kd0_7 h_a) rfl rfl rfl rfl rfl rfl (c_X7_dropAll (d := d + 1) (sb0_7_7 h_a)) (fun _ => trivial) (fun _ => rfl) (fun v7 => ?_)
      refine ev_st (pc' := 47) (L' := [xR a, xI i0, xI i1]) (st' := []) (fun _ _ _ k => e_pop dX0_takeSheet_41 (e_aload_n dX0_takeSheet_42 rfl (i := 0) (x := a) rfl (e_iconst dX0_takeSheet_43 (k4 rfl) (e_puti dX0_takeSheet_44 flX0_47 (kd0_0 h_a) (Or.inl rfl) rfl k)))) ?_
      refine ev_letR (fun R8 eR8 => ?_)
      refine ev_st (pc' := 52) (L' := [xR a, xI i0, xI i1]) (st' := []) (fun _ _ _ k => e_aload_n dX0_takeSheet_47 rfl (i := 0) (x := a) rfl (e_iconst dX0_takeSheet_48 (k4 rfl) (e_puti dX0_takeSheet_49 flX0_50 (kd0_0 h_a) (Or.inl rfl) rfl k))) ?_
      refine ev_letR (fun R9 eR9 => ?_)
      exact ev_ret (e_iload_n dX0_takeSheet_52 rfl (i := 1) (x := i0) rfl (e_iload_n dX0_takeSheet_53 rfl (i := 2) (x := i1) rfl (e_imul dX0_takeSheet_54 (e_iret dX0_takeSheet_55))))
    · exact ev_ret (e_iconst dX0_takeSheet_14 (k4 rfl) (e_iret dX0_takeSheet_15))
  · exact ev_ret (e_iconst dX0_takeSheet_14 (k4 rfl) (e_iret dX0_takeSheet_15))
def f_X3_canFold (a : Nat) (i0 : Int) (R : xN) : Option (Bool) :=
  if i0 = 1 then
  if (R a 3) ≤ 1 then
  some false
  else
  some true
  else
  if i0 = 2 then
  if (R a 3) ≤ 1 then
  some false
  else
  some true
  else
  if i0 = 3 then
  if (R a 2) ≤ 1 then
  some false
  else
  some true
  else
  if i0 = 4 then
  if (R a 2) ≤ 1 then
  some false
  else
  some true
  else
  some false
set_option maxRecDepth 20000 in
set_option maxHeartbeats 4000000 in
theorem c_X3_canFold {l : Launch} {g : xG} {d : Nat} {A : xA} {R : xN} {a : Nat} (h_a : sh 3 A a) (i0 : Int) : Ev l g (d) mX3_canFold 0 [xR a, xI i0] [] A R (fun v : Bool => some (xI (xz v))) (fun _ => R) (f_X3_canFold a i0 R) := by
  rw [f_X3_canFold]
  refine ev_st (pc' := 2) (L' := [xR a, xI i0]) (st' := [xI 1, xI i0]) (fun _ _ _ k => e_iload_n dX3_canFold_0 rfl (i := 1) (x := i0) rfl (e_iconst dX3_canFold_1 (k4 rfl) k)) ?_
  refine ev_br2 (P := i0 = 1) (pct := 10) (pcf := 5) (st' := []) (fun _ _ _ kt kf => e_ceq dX3_canFold_2 (tgt := 10) rfl kt kf) (fun h1 => ?_) (fun h1 => ?_)
  · refine ev_st (pc' := 15) (L' := [xR a, xI i0]) (st' := [xI 1, xI (R a 3)]) (fun _ _ _ k => e_aload_n dX3_canFold_10 rfl (i := 0) (x := a) rfl (e_geti dX3_canFold_11 flX3_21 (kd3_0 h_a) (Or.inl rfl) (e_iconst dX3_canFold_14 (k4 rfl) k))) ?_
    refine ev_br2 (P := (R a 3) ≤ 1) (pct := 22) (pcf := 18) (st' := []) (fun _ _ _ kt kf => e_cle dX3_canFold_15 (tgt := 22) rfl kt kf) (fun h2 => ?_) (fun h2 => ?_)
    · exact ev_ret (e_iconst dX3_canFold_22 (k4 rfl) (e_iret dX3_canFold_23))
    · exact ev_ret (e_iconst dX3_canFold_18 (k4 rfl) (e_goto dX3_canFold_19 (tgt := 23) rfl (e_iret dX3_canFold_23)))
  · refine ev_st (pc' := 7) (L' := [xR a, xI i0]) (st' := [xI 2, xI i0]) (fun _ _ _ k => e_iload_n dX3_canFold_5 rfl (i := 1) (x := i0) rfl (e_iconst dX3_canFold_6 (k4 rfl) k)) ?_
    refine ev_br2 (P := i0 = 2) (pct := 10) (pcf := 24) (st' := []) (fun _ _ _ kt kf => e_cne dX3_canFold_7 (tgt := 24) rfl kt kf) (fun h3 => ?_) (fun h3 => ?_)
    · refine ev_st (pc' := 15) (L' := [xR a, xI i0]) (st' := [xI 1, xI (R a 3)]) (fun _ _ _ k => e_aload_n dX3_canFold_10 rfl (i := 0) (x := a) rfl (e_geti dX3_canFold_11 flX3_21 (kd3_0 h_a) (Or.inl rfl) (e_iconst dX3_canFold_14 (k4 rfl) k))) ?_
      refine ev_br2 (P := (R a 3) ≤ 1) (pct := 22) (pcf := 18) (st' := []) (fun _ _ _ kt kf => e_cle dX3_canFold_15 (tgt := 22) rfl kt kf) (fun h4 => ?_) (fun h4 => ?_)
      · exact ev_ret (e_iconst dX3_canFold_22 (k4 rfl) (e_iret dX3_canFold_23))
      · exact ev_ret (e_iconst dX3_canFold_18 (k4 rfl) (e_goto dX3_canFold_19 (tgt := 23) rfl (e_iret dX3_canFold_23)))
    · refine ev_st (pc' := 26) (L' := [xR a, xI i0]) (st' := [xI 3, xI i0]) (fun _ _ _ k => e_iload_n dX3_canFold_24 rfl (i := 1) (x := i0) rfl (e_iconst dX3_canFold_25 (k4 rfl) k)) ?_
      refine ev_br2 (P := i0 = 3) (pct := 34) (pcf := 29) (st' := []) (fun _ _ _ kt kf => e_ceq dX3_canFold_26 (tgt := 34) rfl kt kf) (fun h5 => ?_) (fun h5 => ?_)
      · refine ev_st (pc' := 39) (L' := [xR a, xI i0]) (st' := [xI 1, xI (R a 2)]) (fun _ _ _ k => e_aload_n dX3_canFold_34 rfl (i := 0) (x := a) rfl (e_geti dX3_canFold_35 flX3_18 (kd3_0 h_a) (Or.inl rfl) (e_iconst dX3_canFold_38 (k4 rfl) k))) ?_
        refine ev_br2 (P := (R a 2) ≤ 1) (pct := 46) (pcf := 42) (st' := []) (fun _ _ _ kt kf => e_cle dX3_canFold_39 (tgt := 46) rfl kt kf) (fun h6 => ?_) (fun h6 => ?_)
        · exact ev_ret (e_iconst dX3_canFold_46 (k4 rfl) (e_iret dX3_canFold_47))
        · exact ev_ret (e_iconst dX3_canFold_42 (k4 rfl) (e_goto dX3_canFold_43 (tgt := 47) rfl (e_iret dX3_canFold_47)))
      · refine ev_st (pc' := 31) (L' := [xR a, xI i0]) (st' := [xI 4, xI i0]) (fun _ _ _ k => e_iload_n dX3_canFold_29 rfl (i := 1) (x := i0) rfl (e_iconst dX3_canFold_30 (k4 rfl) k)) ?_
        refine ev_br2 (P := i0 = 4) (pct := 34) (pcf := 46) (st' := []) (fun _ _ _ kt kf => e_cne dX3_canFold_31 (tgt := 46) rfl kt kf) (fun h7 => ?_) (fun h7 => ?_)
        · refine ev_st (pc' := 39) (L' := [xR a, xI i0]) (st' := [xI 1, xI (R a 2)]) (fun _ _ _ k => e_aload_n dX3_canFold_34 rfl (i := 0) (x := a) rfl (e_geti dX3_canFold_35 flX3_18 (kd3_0 h_a) (Or.inl rfl) (e_iconst dX3_canFold_38 (k4 rfl) k))) ?_
          refine ev_br2 (P := (R a 2) ≤ 1) (pct := 46) (pcf := 42) (st' := []) (fun _ _ _ kt kf => e_cle dX3_canFold_39 (tgt := 46) rfl kt kf) (fun h8 => ?_) (fun h8 => ?_)
          · exact ev_ret (e_iconst dX3_canFold_46 (k4 rfl) (e_iret dX3_canFold_47))
          · exact ev_ret (e_iconst dX3_canFold_42 (k4 rfl) (e_goto dX3_canFold_43 (tgt := 47) rfl (e_iret dX3_canFold_47)))
        · exact ev_ret (e_iconst dX3_canFold_46 (k4 rfl) (e_iret dX3_canFold_47))
def f_X3_depth (a : Nat) (R : xN) : Option (Int) :=
  some (b4shl 1 (R a 5))
set_option maxRecDepth 20000 in
set_option maxHeartbeats 4000000 in
theorem c_X3_depth {l : Launch} {g : xG} {d : Nat} {A : xA} {R : xN} {a : Nat} (h_a : sh 3 A a)  : Ev l g (d) mX3_depth 0 [xR a] [] A R (fun v : Int => some (xI v)) (fun _ => R) (f_X3_depth a R) := by
  rw [f_X3_depth]
  exact ev_ret (e_iconst dX3_depth_0 (k4 rfl) (e_aload_n dX3_depth_1 rfl (i := 0) (x := a) rfl (e_geti dX3_depth_2 flX3_27 (kd3_0 h_a) (Or.inl rfl) (e_ishl dX3_depth_5 (e_iret dX3_depth_6)))))
def f_X3_at (a : Nat) (i0 : Int) (R : xN) : Option (Int) :=
  if i0 < 0 then
  some 0
  else
  if 16 ≤ i0 then
  some 0
  else
  if 0 ≤ i0 ∧ i0 < 16 then
  some (R (a + 1) (i0).toNat)
  else none
set_option maxRecDepth 20000 in
set_option maxHeartbeats 4000000 in
theorem c_X3_at {l : Launch} {g : xG} {d : Nat} {A : xA} {R : xN} {a : Nat} (h_a : sh 3 A a) (i0 : Int) : Ev l g (d) mX3_at 0 [xR a, xI i0] [] A R (fun v : Int => some (xI v)) (fun _ => R) (f_X3_at a i0 R) := by
  rw [f_X3_at]
  refine ev_st (pc' := 1) (L' := [xR a, xI i0]) (st' := [xI i0]) (fun _ _ _ k => e_iload_n dX3_at_0 rfl (i := 1) (x := i0) rfl k) ?_
  refine ev_br2 (P := i0 < 0) (pct := 19) (pcf := 4) (st' := []) (fun _ _ _ kt kf => e_iflt dX3_at_1 (tgt := 19) rfl kt kf) (fun h1 => ?_) (fun h1 => ?_)
  · exact ev_ret (e_iconst dX3_at_19 (k4 rfl) (e_iret dX3_at_20))
  · refine ev_st (pc' := 7) (L' := [xR a, xI i0]) (st' := [xI 16, xI i0]) (fun _ _ _ k => e_iload_n dX3_at_4 rfl (i := 1) (x := i0) rfl (e_bipush dX3_at_5 rfl (k4 rfl) k)) ?_
    refine ev_br2 (P := 16 ≤ i0) (pct := 19) (pcf := 10) (st' := []) (fun _ _ _ kt kf => e_cge dX3_at_7 (tgt := 19) rfl kt kf) (fun h2 => ?_) (fun h2 => ?_)
    · exact ev_ret (e_iconst dX3_at_19 (k4 rfl) (e_iret dX3_at_20))
    · refine ev_st (pc' := 15) (L' := [xR a, xI i0]) (st' := [xI i0, xR (a + 1)]) (fun _ _ _ k => e_aload_n dX3_at_10 rfl (i := 0) (x := a) rfl (e_getr dX3_at_11 flX3_30 (kd3_0 h_a) rfl (rf3_0_6 h_a) (e_iload_n dX3_at_14 rfl (i := 1) (x := i0) rfl k))) ?_
      refine ev_chk (fun h3 => ?_)
      refine ev_st (pc' := 16) (L' := [xR a, xI i0]) (st' := [xI (R (a + 1) (i0).toNat)]) (fun _ _ _ k => e_iald dX3_at_15 (kd3_1 h_a) h3.1 h3.2 k) ?_
      exact ev_ret (e_goto dX3_at_16 (tgt := 20) rfl (e_iret dX3_at_20))
def lp_X3_pile_9 (a : Nat) (p1 : Int) (p2 : Int) (p3 : Int) (p4 : Int) (p5 : Int) : Nat → Int → xN → (Int → xN → Option (xN)) → Option (xN)
  | 0, _, _, _ => none
  | n + 1, y6, R, X =>
    if p5 ≤ y6 then
    X y6 R
    else
    xlet (w4 ((w4 ((w4 (p1 * p5)) * 2)) + y6)) (fun x3 =>
    if x3 < 0 then
    xlet (w4 (y6 + 1)) (fun x5 =>
    lp_X3_pile_9 a p1 p2 p3 p4 p5 n x5 R X)
    else
    if 16 ≤ (w4 (x3 + p5)) then
    xlet (w4 (y6 + 1)) (fun x7 =>
    lp_X3_pile_9 a p1 p2 p3 p4 p5 n x7 R X)
    else
    (f_X3_at a (w4 ((w4 ((w4 ((w4 (p2 + 1)) * p5)) - 1)) - y6)) R).bind (fun v8 =>
    if 0 ≤ x3 ∧ x3 < 16 then
    xlet (xup R (a + 2) (x3).toNat (b4xor v8 p3)) (fun R10 =>
    (f_X3_at a (w4 ((w4 (p4 * p5)) + y6)) R10).bind (fun v11 =>
    if 0 ≤ (w4 (x3 + p5)) ∧ (w4 (x3 + p5)) < 16 then
    xlet (xup R10 (a + 2) ((w4 (x3 + p5))).toNat v11) (fun R13 =>
    xlet (w4 (y6 + 1)) (fun x14 =>
    lp_X3_pile_9 a p1 p2 p3 p4 p5 n x14 R13 X))
    else none))
    else none))
def f_X3_pile (a : Nat) (i0 : Int) (i1 : Int) (i2 : Int) (i3 : Int) (R : xN) : Option (xN) :=
  (f_X3_depth a R).bind (fun v1 =>
  lp_X3_pile_9 a i0 i1 i2 i3 v1 6000 0 R (fun z15 R16 =>
  some R16))
set_option maxRecDepth 20000 in
set_option maxHeartbeats 4000000 in
theorem lc_X3_pile_9 {l : Launch} {g : xG} {d : Nat} {A : xA} {a : Nat} (h_a : sh 3 A a) (p1 : Int) (p2 : Int) (p3 : Int) (p4 : Int) (p5 : Int) {X : Int → xN → Option (xN)} (hX : ∀ (y6 : Int) (R : xN), Ev l g (d + 1) mX3_pile 94 [xU, xU, xU, xU, xU, xU, xU, xU] [] A R (fun _ : xN => none) (fun v => v) (X y6 R)) (n : Nat) (y6 : Int) (R : xN) : Ev l g (d + 1) mX3_pile 9 [xR a, xI p1, xI p2, xI p3, xI p4, xI p5, xI y6, xU] [] A R (fun _ : xN => none) (fun v => v) (lp_X3_pile_9 a p1 p2 p3 p4 p5 n y6 R X) := by
  induction n generalizing y6 R with
  | zero => exact ev_none
  | succ n ih =>
    rw [lp_X3_pile_9]
    refine ev_st (pc' := 13) (L' := [xR a, xI p1, xI p2, xI p3, xI p4, xI p5, xI y6, xU]) (st' := [xI p5, xI y6]) (fun _ _ _ k => e_iload dX3_pile_9 (i := 6) (x := y6) rfl (e_iload dX3_pile_11 (i := 5) (x := p5) rfl k)) ?_
    refine ev_br2 (P := p5 ≤ y6) (pct := 94) (pcf := 16) (st' := []) (fun _ _ _ kt kf => e_cge dX3_pile_13 (tgt := 94) rfl kt kf) (fun h2 => ?_) (fun h2 => ?_)
    · refine ev_st (pc' := 94) (L' := [xU, xU, xU, xU, xU, xU, xU, xU]) (st' := []) (fun _ _ _ k => e_fg [0, 1, 2, 3, 4, 5, 6] k) ?_
      exact hX y6 R
    · refine ev_st (pc' := 25) (L' := [xR a, xI p1, xI p2, xI p3, xI p4, xI p5, xI y6, xU]) (st' := [xI (w4 ((w4 ((w4 (p1 * p5)) * 2)) + y6))]) (fun _ _ _ k => e_iload_n dX3_pile_16 rfl (i := 1) (x := p1) rfl (e_iload dX3_pile_17 (i := 5) (x := p5) rfl (e_imul dX3_pile_19 (e_iconst dX3_pile_20 (k4 rfl) (e_imul dX3_pile_21 (e_iload dX3_pile_22 (i := 6) (x := y6) rfl (e_iadd dX3_pile_24 k))))))) ?_
      refine ev_leti (fun x3 ex3 => ?_)
      refine ev_st (pc' := 27) (L' := [xR a, xI p1, xI p2, xI p3, xI p4, xI p5, xI y6, xI x3]) (st' := []) (fun _ _ _ k => e_istore dX3_pile_25 (i := 7) rfl (L' := [xR a, xI p1, xI p2, xI p3, xI p4, xI p5, xI y6, xI x3]) rfl k) ?_
      refine ev_st (pc' := 29) (L' := [xR a, xI p1, xI p2, xI p3, xI p4, xI p5, xI y6, xI x3]) (st' := [xI x3]) (fun _ _ _ k => e_iload dX3_pile_27 (i := 7) (x := x3) rfl k) ?_
      refine ev_br2 (P := x3 < 0) (pct := 88) (pcf := 32) (st' := []) (fun _ _ _ kt kf => e_iflt dX3_pile_29 (tgt := 88) rfl kt kf) (fun h4 => ?_) (fun h4 => ?_)
      · refine ev_letx (fun x5 ex5 => ?_)
        refine ev_st (pc' := 91) (L' := [xR a, xI p1, xI p2, xI p3, xI p4, xI p5, xI x5, xI x3]) (st' := []) (fun _ _ _ k => e_iinc dX3_pile_88 (i := 6) rfl (x := y6) rfl (y := x5) ex5 (L' := [xR a, xI p1, xI p2, xI p3, xI p4, xI p5, xI x5, xI x3]) rfl k) ?_
        refine ev_st (pc' := 9) (L' := [xR a, xI p1, xI p2, xI p3, xI p4, xI p5, xI x5, xU]) (st' := []) (fun _ _ _ k => e_goto dX3_pile_91 (tgt := 9) rfl (e_fg [7] k)) ?_
        exact ih x5 R
      · refine ev_st (pc' := 39) (L' := [xR a, xI p1, xI p2, xI p3, xI p4, xI p5, xI y6, xI x3]) (st' := [xI 16, xI (w4 (x3 + p5))]) (fun _ _ _ k => e_iload dX3_pile_32 (i := 7) (x := x3) rfl (e_iload dX3_pile_34 (i := 5) (x := p5) rfl (e_iadd dX3_pile_36 (e_bipush dX3_pile_37 rfl (k4 rfl) k)))) ?_
        refine ev_br2 (P := 16 ≤ (w4 (x3 + p5))) (pct := 88) (pcf := 42) (st' := []) (fun _ _ _ kt kf => e_cge dX3_pile_39 (tgt := 88) rfl kt kf) (fun h6 => ?_) (fun h6 => ?_)
        · refine ev_letx (fun x7 ex7 => ?_)
          refine ev_st (pc' := 91) (L' := [xR a, xI p1, xI p2, xI p3, xI p4, xI p5, xI x7, xI x3]) (st' := []) (fun _ _ _ k => e_iinc dX3_pile_88 (i := 6) rfl (x := y6) rfl (y := x7) ex7 (L' := [xR a, xI p1, xI p2, xI p3, xI p4, xI p5, xI x7, xI x3]) rfl k) ?_
          refine ev_st (pc' := 9) (L' := [xR a, xI p1, xI p2, xI p3, xI p4, xI p5, xI x7, xU]) (st' := []) (fun _ _ _ k => e_goto dX3_pile_91 (tgt := 9) rfl (e_fg [7] k)) ?_
          exact ih x7 R
        · refine ev_st (pc' := 60) (L' := [xR a, xI p1, xI p2, xI p3, xI p4, xI p5, xI y6, xI x3]) (st' := [xI (w4 ((w4 ((w4 ((w4 (p2 + 1)) * p5)) - 1)) - y6)), xR a, xI x3, xR (a + 2)]) (fun _ _ _ k => e_aload_n dX3_pile_42 rfl (i := 0) (x := a) rfl (e_getr dX3_pile_43 flX3_34 (kd3_0 h_a) rfl (rf3_0_7 h_a) (e_iload dX3_pile_46 (i := 7) (x := x3) rfl (e_aload_n dX3_pile_48 rfl (i := 0) (x := a) rfl (e_iload_n dX3_pile_49 rfl (i := 2) (x := p2) rfl (e_iconst dX3_pile_50 (k4 rfl) (e_iadd dX3_pile_51 (e_iload dX3_pile_52 (i := 5) (x := p5) rfl (e_imul dX3_pile_54 (e_iconst dX3_pile_55 (k4 rfl) (e_isub dX3_pile_56 (e_iload dX3_pile_57 (i := 6) (x := y6) rfl (e_isub dX3_pile_59 k))))))))))))) ?_
          refine ev_callV (As := [xI (w4 ((w4 ((w4 ((w4 (p2 + 1)) * p5)) - 1)) - y6))]) (st := [xI x3, xR (a + 2)]) (fun v8 => [xI v8, xI x3, xR (a + 2)]) dX3_pile_60 mlX3_55 (kd3_0 h_a) rfl rfl rfl rfl rfl rfl (c_X3_at (d := d) h_a (w4 ((w4 ((w4 ((w4 (p2 + 1)) * p5)) - 1)) - y6))) (fun _ => trivial) (fun _ => rfl) (fun v8 => ?_)
          refine ev_st (pc' := 65) (L' := [xR a, xI p1, xI p2, xI p3, xI p4, xI p5, xI y6, xI x3]) (st' := [xI (b4xor v8 p3), xI x3, xR (a + 2)]) (fun _ _ _ k => e_iload_n dX3_pile_63 rfl (i := 3) (x := p3) rfl (e_ixor dX3_pile_64 k)) ?_
          refine ev_chk (fun h9 => ?_)
          refine ev_st (pc' := 66) (L' := [xR a, xI p1, xI p2, xI p3, xI p4, xI p5, xI y6, xI x3]) (st' := []) (fun _ _ _ k => e_iast dX3_pile_65 (kd3_2 h_a) h9.1 h9.2 k) ?_
          refine ev_letR (fun R10 eR10 => ?_)
          refine ev_st (pc' := 84) (L' := [xR a, xI p1, xI p2, xI p3, xI p4, xI p5, xI y6, xI x3]) (st' := [xI (w4 ((w4 (p4 * p5)) + y6)), xR a, xI (w4 (x3 + p5)), xR (a + 2)]) (fun _ _ _ k => e_aload_n dX3_pile_66 rfl (i := 0) (x := a) rfl (e_getr dX3_pile_67 flX3_34 (kd3_0 h_a) rfl (rf3_0_7 h_a) (e_iload dX3_pile_70 (i := 7) (x := x3) rfl (e_iload dX3_pile_72 (i := 5) (x := p5) rfl (e_iadd dX3_pile_74 (e_aload_n dX3_pile_75 rfl (i := 0) (x := a) rfl (e_iload dX3_pile_76 (i := 4) (x := p4) rfl (e_iload dX3_pile_78 (i := 5) (x := p5) rfl (e_imul dX3_pile_80 (e_iload dX3_pile_81 (i := 6) (x := y6) rfl (e_iadd dX3_pile_83 k))))))))))) ?_
          refine ev_callV (As := [xI (w4 ((w4 (p4 * p5)) + y6))]) (st := [xI (w4 (x3 + p5)), xR (a + 2)]) (fun v11 => [xI v11, xI (w4 (x3 + p5)), xR (a + 2)]) dX3_pile_84 mlX3_55 (kd3_0 h_a) rfl rfl rfl rfl rfl rfl (c_X3_at (d := d) h_a (w4 ((w4 (p4 * p5)) + y6))) (fun _ => trivial) (fun _ => rfl) (fun v11 => ?_)
          refine ev_chk (fun h12 => ?_)
          refine ev_st (pc' := 88) (L' := [xR a, xI p1, xI p2, xI p3, xI p4, xI p5, xI y6, xI x3]) (st' := []) (fun _ _ _ k => e_iast dX3_pile_87 (kd3_2 h_a) h12.1 h12.2 k) ?_
          refine ev_letR (fun R13 eR13 => ?_)
          refine ev_letx (fun x14 ex14 => ?_)
          refine ev_st (pc' := 91) (L' := [xR a, xI p1, xI p2, xI p3, xI p4, xI p5, xI x14, xI x3]) (st' := []) (fun _ _ _ k => e_iinc dX3_pile_88 (i := 6) rfl (x := y6) rfl (y := x14) ex14 (L' := [xR a, xI p1, xI p2, xI p3, xI p4, xI p5, xI x14, xI x3]) rfl k) ?_
          refine ev_st (pc' := 9) (L' := [xR a, xI p1, xI p2, xI p3, xI p4, xI p5, xI x14, xU]) (st' := []) (fun _ _ _ k => e_goto dX3_pile_91 (tgt := 9) rfl (e_fg [7] k)) ?_
          exact ih x14 R13
set_option maxRecDepth 20000 in
set_option maxHeartbeats 4000000 in
theorem c_X3_pile {l : Launch} {g : xG} {d : Nat} {A : xA} {R : xN} {a : Nat} (h_a : sh 3 A a) (i0 : Int) (i1 : Int) (i2 : Int) (i3 : Int) : Ev l g (d + 1) mX3_pile 0 [xR a, xI i0, xI i1, xI i2, xI i3, xU, xU, xU] [] A R (fun _ : xN => none) (fun v => v) (f_X3_pile a i0 i1 i2 i3 R) := by
  rw [f_X3_pile]
  refine ev_st (pc' := 1) (L' := [xR a, xI i0, xI i1, xI i2, xI i3, xU, xU, xU]) (st' := [xR a]) (fun _ _ _ k => e_aload_n dX3_pile_0 rfl (i := 0) (x := a) rfl k) ?_
  refine ev_callV (As := []) (st := []) (fun v1 => [xI v1]) dX3_pile_1 mlX3_47 (kd3_0 h_a) rfl rfl rfl rfl rfl rfl (c_X3_depth (d := d) h_a) (fun _ => trivial) (fun _ => rfl) (fun v1 => ?_)
  refine ev_st (pc' := 9) (L' := [xR a, xI i0, xI i1, xI i2, xI i3, xI v1, xI 0, xU]) (st' := []) (fun _ _ _ k => e_istore dX3_pile_4 (i := 5) rfl (L' := [xR a, xI i0, xI i1, xI i2, xI i3, xI v1, xU, xU]) rfl (e_iconst dX3_pile_6 (k4 rfl) (e_istore dX3_pile_7 (i := 6) rfl (L' := [xR a, xI i0, xI i1, xI i2, xI i3, xI v1, xI 0, xU]) rfl k))) ?_
  refine lc_X3_pile_9 h_a i0 i1 i2 i3 v1 (fun z15 R16 => ?_) 6000 0 R
  exact ev_ret (e_vret dX3_pile_94)
def lp_X3_lay_56 (a : Nat) (p1 : Int) (p3 : Int) (p4 : Int) : Nat → Int → xN → (Int → xN → Option (xN)) → Option (xN)
  | 0, _, _, _ => none
  | n + 1, y5, R, X =>
    if p4 ≤ 0 then
    X y5 R
    else
    if (w4 (p3 * p4)) ≤ y5 then
    X y5 R
    else
    if p4 ≠ 0 then
    xlet (if p1 = 3 then p3 else 0) (fun t7 =>
    xlet (w4 ((w4 (Int.tdiv y5 p4)) + t7)) (fun x8 =>
    if p4 ≠ 0 then
    xlet (if p1 = 1 then p4 else 0) (fun t10 =>
    xlet (w4 ((Int.tmod y5 p4) + t10)) (fun x11 =>
    xlet (w4 ((w4 ((R a 3) - 1)) - x11)) (fun x12 =>
    (f_X3_pile a y5 (w4 ((w4 (x8 * (R a 3))) + x12)) 16 (w4 ((w4 (x8 * (R a 3))) + x11)) R).bind (fun v13 =>
    xlet (w4 (y5 + 1)) (fun x14 =>
    lp_X3_lay_56 a p1 p3 p4 n x14 v13 X)))))
    else none))
    else none
def lp_X3_lay_56_1 (a : Nat) (p1 : Int) (p3 : Int) (p4 : Int) : Nat → Int → xN → (Int → xN → Option (xN)) → Option (xN)
  | 0, _, _, _ => none
  | n + 1, y5, R, X =>
    if p4 ≤ 0 then
    X y5 R
    else
    if (w4 (p3 * p4)) ≤ y5 then
    X y5 R
    else
    if p4 ≠ 0 then
    xlet (if p1 = 3 then p3 else 0) (fun t37 =>
    xlet (w4 ((w4 (Int.tdiv y5 p4)) + t37)) (fun x38 =>
    if p4 ≠ 0 then
    xlet (if p1 = 1 then p4 else 0) (fun t40 =>
    xlet (w4 ((Int.tmod y5 p4) + t40)) (fun x41 =>
    xlet (w4 ((w4 ((R a 2) - 1)) - x38)) (fun x42 =>
    (f_X3_pile a y5 (w4 ((w4 (x42 * (R a 3))) + x41)) 32 (w4 ((w4 (x38 * (R a 3))) + x41)) R).bind (fun v43 =>
    xlet (w4 (y5 + 1)) (fun x44 =>
    lp_X3_lay_56_1 a p1 p3 p4 n x44 v43 X)))))
    else none))
    else none
def f_X3_lay (a : Nat) (i0 : Int) (R : xN) : Option (xN) :=
  if i0 = 1 then
  xlet (R a 2) (fun x2 =>
  xlet (w4 (Int.tdiv (R a 3) 2)) (fun x3 =>
  lp_X3_lay_56 a i0 x2 x3 6000 0 R (fun z15 R16 =>
  xlet (xcpy R16 (a + 2) (a + 1) 0 0 16) (fun R17 =>
  xlet (xup R17 a 2 x2) (fun R18 =>
  xlet (xup R18 a 3 x3) (fun R19 =>
  xlet (xup R19 a 4 (w4 ((w4 ((R19 a 4) * 10)) + i0))) (fun R20 =>
  xlet (xup R20 a 5 (w4 ((R20 a 5) + 1))) (fun R21 =>
  some R21))))))))
  else
  if i0 = 2 then
  xlet (R a 2) (fun x23 =>
  xlet (w4 (Int.tdiv (R a 3) 2)) (fun x24 =>
  lp_X3_lay_56 a i0 x23 x24 6000 0 R (fun z25 R26 =>
  xlet (xcpy R26 (a + 2) (a + 1) 0 0 16) (fun R27 =>
  xlet (xup R27 a 2 x23) (fun R28 =>
  xlet (xup R28 a 3 x24) (fun R29 =>
  xlet (xup R29 a 4 (w4 ((w4 ((R29 a 4) * 10)) + i0))) (fun R30 =>
  xlet (xup R30 a 5 (w4 ((R30 a 5) + 1))) (fun R31 =>
  some R31))))))))
  else
  xlet (w4 (Int.tdiv (R a 2) 2)) (fun x32 =>
  xlet (R a 3) (fun x33 =>
  lp_X3_lay_56_1 a i0 x32 x33 6000 0 R (fun z45 R46 =>
  xlet (xcpy R46 (a + 2) (a + 1) 0 0 16) (fun R47 =>
  xlet (xup R47 a 2 x32) (fun R48 =>
  xlet (xup R48 a 3 x33) (fun R49 =>
  xlet (xup R49 a 4 (w4 ((w4 ((R49 a 4) * 10)) + i0))) (fun R50 =>
  xlet (xup R50 a 5 (w4 ((R50 a 5) + 1))) (fun R51 =>
  some R51))))))))
set_option maxRecDepth 20000 in
set_option maxHeartbeats 4000000 in
theorem lc_X3_lay_56 {l : Launch} {g : xG} {d : Nat} {A : xA} {a : Nat} (h_a : sh 3 A a) (p1 : Int) (p3 : Int) (p4 : Int) {X : Int → xN → Option (xN)} (hX : ∀ (y5 : Int) (R : xN), Ev l g (d + 2) mX3_lay 190 [xR a, xI p1, xU, xI p3, xI p4, xU, xU, xU, xU, xU] [] A R (fun _ : xN => none) (fun v => v) (X y5 R)) (n : Nat) (y5 : Int) (R : xN) : Ev l g (d + 2) mX3_lay 56 [xR a, xI p1, xI 1, xI p3, xI p4, xI y5, xU, xU, xU, xU] [] A R (fun _ : xN => none) (fun v => v) (lp_X3_lay_56 a p1 p3 p4 n y5 R X) := by
  induction n generalizing y5 R with
  | zero => exact ev_none
  | succ n ih =>
    rw [lp_X3_lay_56]
    refine ev_st (pc' := 58) (L' := [xR a, xI p1, xI 1, xI p3, xI p4, xI y5, xU, xU, xU, xU]) (st' := [xI p4]) (fun _ _ _ k => e_iload dX3_lay_56 (i := 4) (x := p4) rfl k) ?_
    refine ev_br2 (P := p4 ≤ 0) (pct := 190) (pcf := 61) (st' := []) (fun _ _ _ kt kf => e_ifle dX3_lay_58 (tgt := 190) rfl kt kf) (fun h4 => ?_) (fun h4 => ?_)
    · refine ev_st (pc' := 190) (L' := [xR a, xI p1, xU, xI p3, xI p4, xU, xU, xU, xU, xU]) (st' := []) (fun _ _ _ k => e_fg [2, 5] k) ?_
      exact hX y5 R
    · refine ev_st (pc' := 67) (L' := [xR a, xI p1, xI 1, xI p3, xI p4, xI y5, xU, xU, xU, xU]) (st' := [xI (w4 (p3 * p4)), xI y5]) (fun _ _ _ k => e_iload dX3_lay_61 (i := 5) (x := y5) rfl (e_iload_n dX3_lay_63 rfl (i := 3) (x := p3) rfl (e_iload dX3_lay_64 (i := 4) (x := p4) rfl (e_imul dX3_lay_66 k)))) ?_
      refine ev_br2 (P := (w4 (p3 * p4)) ≤ y5) (pct := 190) (pcf := 70) (st' := []) (fun _ _ _ kt kf => e_cge dX3_lay_67 (tgt := 190) rfl kt kf) (fun h5 => ?_) (fun h5 => ?_)
      · refine ev_st (pc' := 190) (L' := [xR a, xI p1, xU, xI p3, xI p4, xU, xU, xU, xU, xU]) (st' := []) (fun _ _ _ k => e_fg [2, 5] k) ?_
        exact hX y5 R
      · refine ev_st (pc' := 74) (L' := [xR a, xI p1, xI 1, xI p3, xI p4, xI y5, xU, xU, xU, xU]) (st' := [xI p4, xI y5]) (fun _ _ _ k => e_iload dX3_lay_70 (i := 5) (x := y5) rfl (e_iload dX3_lay_72 (i := 4) (x := p4) rfl k)) ?_
        refine ev_chk (fun h6 => ?_)
        refine ev_st (pc' := 75) (L' := [xR a, xI p1, xI 1, xI p3, xI p4, xI y5, xU, xU, xU, xU]) (st' := [xI (w4 (Int.tdiv y5 p4))]) (fun _ _ _ k => e_idiv dX3_lay_74 h6 k) ?_
        refine ev_st (pc' := 77) (L' := [xR a, xI p1, xI 1, xI p3, xI p4, xI y5, xU, xU, xU, xU]) (st' := [xI 3, xI p1, xI (w4 (Int.tdiv y5 p4))]) (fun _ _ _ k => e_iload_n dX3_lay_75 rfl (i := 1) (x := p1) rfl (e_iconst dX3_lay_76 (k4 rfl) k)) ?_
        refine ev_tern (P := p1 = 3) (a := p3) (b := 0) (pct := 80) (pcf := 84) (J := 85) (st' := [xI (w4 (Int.tdiv y5 p4))]) (fun _ _ _ kt kf => e_cne dX3_lay_77 (tgt := 84) rfl kt kf) (fun _ _ _ k => e_iload_n dX3_lay_80 rfl (i := 3) (x := p3) rfl (e_goto dX3_lay_81 (tgt := 85) rfl k)) (fun _ _ _ k => e_iconst dX3_lay_84 (k4 rfl) k) (fun t7 et7 => ?_)
        refine ev_st (pc' := 86) (L' := [xR a, xI p1, xI 1, xI p3, xI p4, xI y5, xU, xU, xU, xU]) (st' := [xI (w4 ((w4 (Int.tdiv y5 p4)) + t7))]) (fun _ _ _ k => e_iadd dX3_lay_85 k) ?_
        refine ev_leti (fun x8 ex8 => ?_)
        refine ev_st (pc' := 88) (L' := [xR a, xI p1, xI 1, xI p3, xI p4, xI y5, xI x8, xU, xU, xU]) (st' := []) (fun _ _ _ k => e_istore dX3_lay_86 (i := 6) rfl (L' := [xR a, xI p1, xI 1, xI p3, xI p4, xI y5, xI x8, xU, xU, xU]) rfl k) ?_
        refine ev_st (pc' := 92) (L' := [xR a, xI p1, xI 1, xI p3, xI p4, xI y5, xI x8, xU, xU, xU]) (st' := [xI p4, xI y5]) (fun _ _ _ k => e_iload dX3_lay_88 (i := 5) (x := y5) rfl (e_iload dX3_lay_90 (i := 4) (x := p4) rfl k)) ?_
        refine ev_chk (fun h9 => ?_)
        refine ev_st (pc' := 93) (L' := [xR a, xI p1, xI 1, xI p3, xI p4, xI y5, xI x8, xU, xU, xU]) (st' := [xI (Int.tmod y5 p4)]) (fun _ _ _ k => e_irem dX3_lay_92 h9 k) ?_
        refine ev_st (pc' := 95) (L' := [xR a, xI p1, xI 1, xI p3, xI p4, xI y5, xI x8, xU, xU, xU]) (st' := [xI 1, xI p1, xI (Int.tmod y5 p4)]) (fun _ _ _ k => e_iload_n dX3_lay_93 rfl (i := 1) (x := p1) rfl (e_iconst dX3_lay_94 (k4 rfl) k)) ?_
        refine ev_tern (P := p1 = 1) (a := p4) (b := 0) (pct := 98) (pcf := 103) (J := 104) (st' := [xI (Int.tmod y5 p4)]) (fun _ _ _ kt kf => e_cne dX3_lay_95 (tgt := 103) rfl kt kf) (fun _ _ _ k => e_iload dX3_lay_98 (i := 4) (x := p4) rfl (e_goto dX3_lay_100 (tgt := 104) rfl k)) (fun _ _ _ k => e_iconst dX3_lay_103 (k4 rfl) k) (fun t10 et10 => ?_)
        refine ev_st (pc' := 105) (L' := [xR a, xI p1, xI 1, xI p3, xI p4, xI y5, xI x8, xU, xU, xU]) (st' := [xI (w4 ((Int.tmod y5 p4) + t10))]) (fun _ _ _ k => e_iadd dX3_lay_104 k) ?_
        refine ev_leti (fun x11 ex11 => ?_)
        refine ev_st (pc' := 107) (L' := [xR a, xI p1, xI 1, xI p3, xI p4, xI y5, xI x8, xI x11, xU, xU]) (st' := []) (fun _ _ _ k => e_istore dX3_lay_105 (i := 7) rfl (L' := [xR a, xI p1, xI 1, xI p3, xI p4, xI y5, xI x8, xI x11, xU, xU]) rfl k) ?_
        refine ev_st (pc' := 111) (L' := [xR a, xI p1, xI 1, xI p3, xI p4, xI y5, xI x8, xI x11, xU, xU]) (st' := []) (fun _ _ _ k => e_iload_n dX3_lay_107 rfl (i := 2) (x := 1) rfl (e_ifeqF dX3_lay_108 (tgt := 116) rfl (by decide) k)) ?_
        refine ev_st (pc' := 131) (L' := [xR a, xI p1, xI 1, xI p3, xI p4, xI y5, xI x8, xI x11, xI x8, xU]) (st' := []) (fun _ _ _ k => e_iload dX3_lay_111 (i := 6) (x := x8) rfl (e_goto dX3_lay_113 (tgt := 125) rfl (e_istore dX3_lay_125 (i := 8) rfl (L' := [xR a, xI p1, xI 1, xI p3, xI p4, xI y5, xI x8, xI x11, xI x8, xU]) rfl (e_iload_n dX3_lay_127 rfl (i := 2) (x := 1) rfl (e_ifeqF dX3_lay_128 (tgt := 143) rfl (by decide) k))))) ?_
        refine ev_st (pc' := 145) (L' := [xR a, xI p1, xI 1, xI p3, xI p4, xI y5, xI x8, xI x11, xI x8, xU]) (st' := [xI (w4 ((w4 ((R a 3) - 1)) - x11))]) (fun _ _ _ k => e_aload_n dX3_lay_131 rfl (i := 0) (x := a) rfl (e_geti dX3_lay_132 flX3_21 (kd3_0 h_a) (Or.inl rfl) (e_iconst dX3_lay_135 (k4 rfl) (e_isub dX3_lay_136 (e_iload dX3_lay_137 (i := 7) (x := x11) rfl (e_isub dX3_lay_139 (e_goto dX3_lay_140 (tgt := 145) rfl k))))))) ?_
        refine ev_leti (fun x12 ex12 => ?_)
        refine ev_st (pc' := 147) (L' := [xR a, xI p1, xI 1, xI p3, xI p4, xI y5, xI x8, xI x11, xI x8, xI x12]) (st' := []) (fun _ _ _ k => e_istore dX3_lay_145 (i := 9) rfl (L' := [xR a, xI p1, xI 1, xI p3, xI p4, xI y5, xI x8, xI x11, xI x8, xI x12]) rfl k) ?_
        refine ev_st (pc' := 164) (L' := [xR a, xI p1, xI 1, xI p3, xI p4, xI y5, xI x8, xI x11, xI x8, xI x12]) (st' := [xI (w4 ((w4 (x8 * (R a 3))) + x12)), xI y5, xR a]) (fun _ _ _ k => e_aload_n dX3_lay_147 rfl (i := 0) (x := a) rfl (e_iload dX3_lay_148 (i := 5) (x := y5) rfl (e_iload dX3_lay_150 (i := 8) (x := x8) rfl (e_aload_n dX3_lay_152 rfl (i := 0) (x := a) rfl (e_geti dX3_lay_153 flX3_21 (kd3_0 h_a) (Or.inl rfl) (e_imul dX3_lay_156 (e_iload dX3_lay_157 (i := 9) (x := x12) rfl (e_iadd dX3_lay_159 (e_iload_n dX3_lay_160 rfl (i := 2) (x := 1) rfl (e_ifeqF dX3_lay_161 (tgt := 169) rfl (by decide) k)))))))))) ?_
        refine ev_st (pc' := 181) (L' := [xR a, xI p1, xI 1, xI p3, xI p4, xI y5, xI x8, xI x11, xI x8, xI x12]) (st' := [xI (w4 ((w4 (x8 * (R a 3))) + x11)), xI 16, xI (w4 ((w4 (x8 * (R a 3))) + x12)), xI y5, xR a]) (fun _ _ _ k => e_bipush dX3_lay_164 rfl (k4 rfl) (e_goto dX3_lay_166 (tgt := 171) rfl (e_iload dX3_lay_171 (i := 6) (x := x8) rfl (e_aload_n dX3_lay_173 rfl (i := 0) (x := a) rfl (e_geti dX3_lay_174 flX3_21 (kd3_0 h_a) (Or.inl rfl) (e_imul dX3_lay_177 (e_iload dX3_lay_178 (i := 7) (x := x11) rfl (e_iadd dX3_lay_180 k)))))))) ?_
        refine ev_callV (As := [xI y5, xI (w4 ((w4 (x8 * (R a 3))) + x12)), xI 16, xI (w4 ((w4 (x8 * (R a 3))) + x11))]) (st := []) (fun v13 => []) dX3_lay_181 mlX3_51 (kd3_0 h_a) rfl rfl rfl rfl rfl rfl (c_X3_pile (d := d) h_a y5 (w4 ((w4 (x8 * (R a 3))) + x12)) 16 (w4 ((w4 (x8 * (R a 3))) + x11))) (fun _ => trivial) (fun _ => rfl) (fun v13 => ?_)
        refine ev_letx (fun x14 ex14 => ?_)
        refine ev_st (pc' := 187) (L' := [xR a, xI p1, xI 1, xI p3, xI p4, xI x14, xI x8, xI x11, xI x8, xI x12]) (st' := []) (fun _ _ _ k => e_iinc dX3_lay_184 (i := 5) rfl (x := y5) rfl (y := x14) ex14 (L' := [xR a, xI p1, xI 1, xI p3, xI p4, xI x14, xI x8, xI x11, xI x8, xI x12]) rfl k) ?_
        refine ev_st (pc' := 56) (L' := [xR a, xI p1, xI 1, xI p3, xI p4, xI x14, xU, xU, xU, xU]) (st' := []) (fun _ _ _ k => e_goto dX3_lay_187 (tgt := 56) rfl (e_fg [6, 7, 8, 9] k)) ?_
        exact ih x14 v13
set_option maxRecDepth 20000 in
set_option maxHeartbeats 4000000 in
theorem lc_X3_lay_56_1 {l : Launch} {g : xG} {d : Nat} {A : xA} {a : Nat} (h_a : sh 3 A a) (p1 : Int) (p3 : Int) (p4 : Int) {X : Int → xN → Option (xN)} (hX : ∀ (y5 : Int) (R : xN), Ev l g (d + 2) mX3_lay 190 [xR a, xI p1, xU, xI p3, xI p4, xU, xU, xU, xU, xU] [] A R (fun _ : xN => none) (fun v => v) (X y5 R)) (n : Nat) (y5 : Int) (R : xN) : Ev l g (d + 2) mX3_lay 56 [xR a, xI p1, xI 0, xI p3, xI p4, xI y5, xU, xU, xU, xU] [] A R (fun _ : xN => none) (fun v => v) (lp_X3_lay_56_1 a p1 p3 p4 n y5 R X) := by
  induction n generalizing y5 R with
  | zero => exact ev_none
  | succ n ih =>
    rw [lp_X3_lay_56_1]
    refine ev_st (pc' := 58) (L' := [xR a, xI p1, xI 0, xI p3, xI p4, xI y5, xU, xU, xU, xU]) (st' := [xI p4]) (fun _ _ _ k => e_iload dX3_lay_56 (i := 4) (x := p4) rfl k) ?_
    refine ev_br2 (P := p4 ≤ 0) (pct := 190) (pcf := 61) (st' := []) (fun _ _ _ kt kf => e_ifle dX3_lay_58 (tgt := 190) rfl kt kf) (fun h34 => ?_) (fun h34 => ?_)
    · refine ev_st (pc' := 190) (L' := [xR a, xI p1, xU, xI p3, xI p4, xU, xU, xU, xU, xU]) (st' := []) (fun _ _ _ k => e_fg [2, 5] k) ?_
      exact hX y5 R
    · refine ev_st (pc' := 67) (L' := [xR a, xI p1, xI 0, xI p3, xI p4, xI y5, xU, xU, xU, xU]) (st' := [xI (w4 (p3 * p4)), xI y5]) (fun _ _ _ k => e_iload dX3_lay_61 (i := 5) (x := y5) rfl (e_iload_n dX3_lay_63 rfl (i := 3) (x := p3) rfl (e_iload dX3_lay_64 (i := 4) (x := p4) rfl (e_imul dX3_lay_66 k)))) ?_
      refine ev_br2 (P := (w4 (p3 * p4)) ≤ y5) (pct := 190) (pcf := 70) (st' := []) (fun _ _ _ kt kf => e_cge dX3_lay_67 (tgt := 190) rfl kt kf) (fun h35 => ?_) (fun h35 => ?_)
      · refine ev_st (pc' := 190) (L' := [xR a, xI p1, xU, xI p3, xI p4, xU, xU, xU, xU, xU]) (st' := []) (fun _ _ _ k => e_fg [2, 5] k) ?_
        exact hX y5 R
      · refine ev_st (pc' := 74) (L' := [xR a, xI p1, xI 0, xI p3, xI p4, xI y5, xU, xU, xU, xU]) (st' := [xI p4, xI y5]) (fun _ _ _ k => e_iload dX3_lay_70 (i := 5) (x := y5) rfl (e_iload dX3_lay_72 (i := 4) (x := p4) rfl k)) ?_
        refine ev_chk (fun h36 => ?_)
        refine ev_st (pc' := 75) (L' := [xR a, xI p1, xI 0, xI p3, xI p4, xI y5, xU, xU, xU, xU]) (st' := [xI (w4 (Int.tdiv y5 p4))]) (fun _ _ _ k => e_idiv dX3_lay_74 h36 k) ?_
        refine ev_st (pc' := 77) (L' := [xR a, xI p1, xI 0, xI p3, xI p4, xI y5, xU, xU, xU, xU]) (st' := [xI 3, xI p1, xI (w4 (Int.tdiv y5 p4))]) (fun _ _ _ k => e_iload_n dX3_lay_75 rfl (i := 1) (x := p1) rfl (e_iconst dX3_lay_76 (k4 rfl) k)) ?_
        refine ev_tern (P := p1 = 3) (a := p3) (b := 0) (pct := 80) (pcf := 84) (J := 85) (st' := [xI (w4 (Int.tdiv y5 p4))]) (fun _ _ _ kt kf => e_cne dX3_lay_77 (tgt := 84) rfl kt kf) (fun _ _ _ k => e_iload_n dX3_lay_80 rfl (i := 3) (x := p3) rfl (e_goto dX3_lay_81 (tgt := 85) rfl k)) (fun _ _ _ k => e_iconst dX3_lay_84 (k4 rfl) k) (fun t37 et37 => ?_)
        refine ev_st (pc' := 86) (L' := [xR a, xI p1, xI 0, xI p3, xI p4, xI y5, xU, xU, xU, xU]) (st' := [xI (w4 ((w4 (Int.tdiv y5 p4)) + t37))]) (fun _ _ _ k => e_iadd dX3_lay_85 k) ?_
        refine ev_leti (fun x38 ex38 => ?_)
        refine ev_st (pc' := 88) (L' := [xR a, xI p1, xI 0, xI p3, xI p4, xI y5, xI x38, xU, xU, xU]) (st' := []) (fun _ _ _ k => e_istore dX3_lay_86 (i := 6) rfl (L' := [xR a, xI p1, xI 0, xI p3, xI p4, xI y5, xI x38, xU, xU, xU]) rfl k) ?_
        refine ev_st (pc' := 92) (L' := [xR a, xI p1, xI 0, xI p3, xI p4, xI y5, xI x38, xU, xU, xU]) (st' := [xI p4, xI y5]) (fun _ _ _ k => e_iload dX3_lay_88 (i := 5) (x := y5) rfl (e_iload dX3_lay_90 (i := 4) (x := p4) rfl k)) ?_
        refine ev_chk (fun h39 => ?_)
        refine ev_st (pc' := 93) (L' := [xR a, xI p1, xI 0, xI p3, xI p4, xI y5, xI x38, xU, xU, xU]) (st' := [xI (Int.tmod y5 p4)]) (fun _ _ _ k => e_irem dX3_lay_92 h39 k) ?_
        refine ev_st (pc' := 95) (L' := [xR a, xI p1, xI 0, xI p3, xI p4, xI y5, xI x38, xU, xU, xU]) (st' := [xI 1, xI p1, xI (Int.tmod y5 p4)]) (fun _ _ _ k => e_iload_n dX3_lay_93 rfl (i := 1) (x := p1) rfl (e_iconst dX3_lay_94 (k4 rfl) k)) ?_
        refine ev_tern (P := p1 = 1) (a := p4) (b := 0) (pct := 98) (pcf := 103) (J := 104) (st' := [xI (Int.tmod y5 p4)]) (fun _ _ _ kt kf => e_cne dX3_lay_95 (tgt := 103) rfl kt kf) (fun _ _ _ k => e_iload dX3_lay_98 (i := 4) (x := p4) rfl (e_goto dX3_lay_100 (tgt := 104) rfl k)) (fun _ _ _ k => e_iconst dX3_lay_103 (k4 rfl) k) (fun t40 et40 => ?_)
        refine ev_st (pc' := 105) (L' := [xR a, xI p1, xI 0, xI p3, xI p4, xI y5, xI x38, xU, xU, xU]) (st' := [xI (w4 ((Int.tmod y5 p4) + t40))]) (fun _ _ _ k => e_iadd dX3_lay_104 k) ?_
        refine ev_leti (fun x41 ex41 => ?_)
        refine ev_st (pc' := 107) (L' := [xR a, xI p1, xI 0, xI p3, xI p4, xI y5, xI x38, xI x41, xU, xU]) (st' := []) (fun _ _ _ k => e_istore dX3_lay_105 (i := 7) rfl (L' := [xR a, xI p1, xI 0, xI p3, xI p4, xI y5, xI x38, xI x41, xU, xU]) rfl k) ?_
        refine ev_st (pc' := 116) (L' := [xR a, xI p1, xI 0, xI p3, xI p4, xI y5, xI x38, xI x41, xU, xU]) (st' := []) (fun _ _ _ k => e_iload_n dX3_lay_107 rfl (i := 2) (x := 0) rfl (e_ifeqT dX3_lay_108 (tgt := 116) rfl (by decide) k)) ?_
        refine ev_st (pc' := 125) (L' := [xR a, xI p1, xI 0, xI p3, xI p4, xI y5, xI x38, xI x41, xU, xU]) (st' := [xI (w4 ((w4 ((R a 2) - 1)) - x38))]) (fun _ _ _ k => e_aload_n dX3_lay_116 rfl (i := 0) (x := a) rfl (e_geti dX3_lay_117 flX3_18 (kd3_0 h_a) (Or.inl rfl) (e_iconst dX3_lay_120 (k4 rfl) (e_isub dX3_lay_121 (e_iload dX3_lay_122 (i := 6) (x := x38) rfl (e_isub dX3_lay_124 k)))))) ?_
        refine ev_leti (fun x42 ex42 => ?_)
        refine ev_st (pc' := 127) (L' := [xR a, xI p1, xI 0, xI p3, xI p4, xI y5, xI x38, xI x41, xI x42, xU]) (st' := []) (fun _ _ _ k => e_istore dX3_lay_125 (i := 8) rfl (L' := [xR a, xI p1, xI 0, xI p3, xI p4, xI y5, xI x38, xI x41, xI x42, xU]) rfl k) ?_
        refine ev_st (pc' := 143) (L' := [xR a, xI p1, xI 0, xI p3, xI p4, xI y5, xI x38, xI x41, xI x42, xU]) (st' := []) (fun _ _ _ k => e_iload_n dX3_lay_127 rfl (i := 2) (x := 0) rfl (e_ifeqT dX3_lay_128 (tgt := 143) rfl (by decide) k)) ?_
        refine ev_st (pc' := 169) (L' := [xR a, xI p1, xI 0, xI p3, xI p4, xI y5, xI x38, xI x41, xI x42, xI x41]) (st' := [xI (w4 ((w4 (x42 * (R a 3))) + x41)), xI y5, xR a]) (fun _ _ _ k => e_iload dX3_lay_143 (i := 7) (x := x41) rfl (e_istore dX3_lay_145 (i := 9) rfl (L' := [xR a, xI p1, xI 0, xI p3, xI p4, xI y5, xI x38, xI x41, xI x42, xI x41]) rfl (e_aload_n dX3_lay_147 rfl (i := 0) (x := a) rfl (e_iload dX3_lay_148 (i := 5) (x := y5) rfl (e_iload dX3_lay_150 (i := 8) (x := x42) rfl (e_aload_n dX3_lay_152 rfl (i := 0) (x := a) rfl (e_geti dX3_lay_153 flX3_21 (kd3_0 h_a) (Or.inl rfl) (e_imul dX3_lay_156 (e_iload dX3_lay_157 (i := 9) (x := x41) rfl (e_iadd dX3_lay_159 (e_iload_n dX3_lay_160 rfl (i := 2) (x := 0) rfl (e_ifeqT dX3_lay_161 (tgt := 169) rfl (by decide) k)))))))))))) ?_
        refine ev_st (pc' := 181) (L' := [xR a, xI p1, xI 0, xI p3, xI p4, xI y5, xI x38, xI x41, xI x42, xI x41]) (st' := [xI (w4 ((w4 (x38 * (R a 3))) + x41)), xI 32, xI (w4 ((w4 (x42 * (R a 3))) + x41)), xI y5, xR a]) (fun _ _ _ k => e_bipush dX3_lay_169 rfl (k4 rfl) (e_iload dX3_lay_171 (i := 6) (x := x38) rfl (e_aload_n dX3_lay_173 rfl (i := 0) (x := a) rfl (e_geti dX3_lay_174 flX3_21 (kd3_0 h_a) (Or.inl rfl) (e_imul dX3_lay_177 (e_iload dX3_lay_178 (i := 7) (x := x41) rfl (e_iadd dX3_lay_180 k))))))) ?_
        refine ev_callV (As := [xI y5, xI (w4 ((w4 (x42 * (R a 3))) + x41)), xI 32, xI (w4 ((w4 (x38 * (R a 3))) + x41))]) (st := []) (fun v43 => []) dX3_lay_181 mlX3_51 (kd3_0 h_a) rfl rfl rfl rfl rfl rfl (c_X3_pile (d := d) h_a y5 (w4 ((w4 (x42 * (R a 3))) + x41)) 32 (w4 ((w4 (x38 * (R a 3))) + x41))) (fun _ => trivial) (fun _ => rfl) (fun v43 => ?_)
        refine ev_letx (fun x44 ex44 => ?_)
        refine ev_st (pc' := 187) (L' := [xR a, xI p1, xI 0, xI p3, xI p4, xI x44, xI x38, xI x41, xI x42, xI x41]) (st' := []) (fun _ _ _ k => e_iinc dX3_lay_184 (i := 5) rfl (x := y5) rfl (y := x44) ex44 (L' := [xR a, xI p1, xI 0, xI p3, xI p4, xI x44, xI x38, xI x41, xI x42, xI x41]) rfl k) ?_
        refine ev_st (pc' := 56) (L' := [xR a, xI p1, xI 0, xI p3, xI p4, xI x44, xU, xU, xU, xU]) (st' := []) (fun _ _ _ k => e_goto dX3_lay_187 (tgt := 56) rfl (e_fg [6, 7, 8, 9] k)) ?_
        exact ih x44 v43
set_option maxRecDepth 20000 in
set_option maxHeartbeats 4000000 in
theorem c_X3_lay {l : Launch} {g : xG} {d : Nat} {A : xA} {R : xN} {a : Nat} (h_a : sh 3 A a) (i0 : Int) : Ev l g (d + 2) mX3_lay 0 [xR a, xI i0, xU, xU, xU, xU, xU, xU, xU, xU] [] A R (fun _ : xN => none) (fun v => v) (f_X3_lay a i0 R) := by
  rw [f_X3_lay]
  refine ev_st (pc' := 2) (L' := [xR a, xI i0, xU, xU, xU, xU, xU, xU, xU, xU]) (st' := [xI 1, xI i0]) (fun _ _ _ k => e_iload_n dX3_lay_0 rfl (i := 1) (x := i0) rfl (e_iconst dX3_lay_1 (k4 rfl) k)) ?_
  refine ev_br2 (P := i0 = 1) (pct := 10) (pcf := 5) (st' := []) (fun _ _ _ kt kf => e_ceq dX3_lay_2 (tgt := 10) rfl kt kf) (fun h1 => ?_) (fun h1 => ?_)
  · refine ev_st (pc' := 20) (L' := [xR a, xI i0, xI 1, xU, xU, xU, xU, xU, xU, xU]) (st' := []) (fun _ _ _ k => e_iconst dX3_lay_10 (k4 rfl) (e_goto dX3_lay_11 (tgt := 15) rfl (e_istore_n dX3_lay_15 rfl (i := 2) rfl (L' := [xR a, xI i0, xI 1, xU, xU, xU, xU, xU, xU, xU]) rfl (e_iload_n dX3_lay_16 rfl (i := 2) (x := 1) rfl (e_ifeqF dX3_lay_17 (tgt := 27) rfl (by decide) k))))) ?_
    refine ev_st (pc' := 33) (L' := [xR a, xI i0, xI 1, xU, xU, xU, xU, xU, xU, xU]) (st' := [xI (R a 2)]) (fun _ _ _ k => e_aload_n dX3_lay_20 rfl (i := 0) (x := a) rfl (e_geti dX3_lay_21 flX3_18 (kd3_0 h_a) (Or.inl rfl) (e_goto dX3_lay_24 (tgt := 33) rfl k))) ?_
    refine ev_leti (fun x2 ex2 => ?_)
    refine ev_st (pc' := 34) (L' := [xR a, xI i0, xI 1, xI x2, xU, xU, xU, xU, xU, xU]) (st' := []) (fun _ _ _ k => e_istore_n dX3_lay_33 rfl (i := 3) rfl (L' := [xR a, xI i0, xI 1, xI x2, xU, xU, xU, xU, xU, xU]) rfl k) ?_
    refine ev_st (pc' := 38) (L' := [xR a, xI i0, xI 1, xI x2, xU, xU, xU, xU, xU, xU]) (st' := []) (fun _ _ _ k => e_iload_n dX3_lay_34 rfl (i := 2) (x := 1) rfl (e_ifeqF dX3_lay_35 (tgt := 47) rfl (by decide) k)) ?_
    refine ev_st (pc' := 51) (L' := [xR a, xI i0, xI 1, xI x2, xU, xU, xU, xU, xU, xU]) (st' := [xI (w4 (Int.tdiv (R a 3) 2))]) (fun _ _ _ k => e_aload_n dX3_lay_38 rfl (i := 0) (x := a) rfl (e_geti dX3_lay_39 flX3_21 (kd3_0 h_a) (Or.inl rfl) (e_iconst dX3_lay_42 (k4 rfl) (e_idiv dX3_lay_43 (by decide) (e_goto dX3_lay_44 (tgt := 51) rfl k))))) ?_
    refine ev_leti (fun x3 ex3 => ?_)
    refine ev_st (pc' := 53) (L' := [xR a, xI i0, xI 1, xI x2, xI x3, xU, xU, xU, xU, xU]) (st' := []) (fun _ _ _ k => e_istore dX3_lay_51 (i := 4) rfl (L' := [xR a, xI i0, xI 1, xI x2, xI x3, xU, xU, xU, xU, xU]) rfl k) ?_
    refine ev_st (pc' := 56) (L' := [xR a, xI i0, xI 1, xI x2, xI x3, xI 0, xU, xU, xU, xU]) (st' := []) (fun _ _ _ k => e_iconst dX3_lay_53 (k4 rfl) (e_istore dX3_lay_54 (i := 5) rfl (L' := [xR a, xI i0, xI 1, xI x2, xI x3, xI 0, xU, xU, xU, xU]) rfl k)) ?_
    refine lc_X3_lay_56 h_a i0 x2 x3 (fun z15 R16 => ?_) 6000 0 R
    refine ev_st (pc' := 205) (L' := [xR a, xI i0, xU, xI x2, xI x3, xU, xU, xU, xU, xU]) (st' := []) (fun _ _ _ k => e_aload_n dX3_lay_190 rfl (i := 0) (x := a) rfl (e_getr dX3_lay_191 flX3_34 (kd3_0 h_a) rfl (rf3_0_7 h_a) (e_iconst dX3_lay_194 (k4 rfl) (e_aload_n dX3_lay_195 rfl (i := 0) (x := a) rfl (e_getr dX3_lay_196 flX3_30 (kd3_0 h_a) rfl (rf3_0_6 h_a) (e_iconst dX3_lay_199 (k4 rfl) (e_bipush dX3_lay_200 rfl (k4 rfl) (e_copy dX3_lay_202 cw_329 cw_324 cw_323 cw_12 (kd3_2 h_a) (kd3_1 h_a) (by decide) (by decide) (by decide) (by decide) (by decide) rfl k)))))))) ?_
    refine ev_letR (fun R17 eR17 => ?_)
    refine ev_st (pc' := 210) (L' := [xR a, xI i0, xU, xI x2, xI x3, xU, xU, xU, xU, xU]) (st' := []) (fun _ _ _ k => e_aload_n dX3_lay_205 rfl (i := 0) (x := a) rfl (e_iload_n dX3_lay_206 rfl (i := 3) (x := x2) rfl (e_puti dX3_lay_207 flX3_18 (kd3_0 h_a) (Or.inl rfl) rfl k))) ?_
    refine ev_letR (fun R18 eR18 => ?_)
    refine ev_st (pc' := 216) (L' := [xR a, xI i0, xU, xI x2, xI x3, xU, xU, xU, xU, xU]) (st' := []) (fun _ _ _ k => e_aload_n dX3_lay_210 rfl (i := 0) (x := a) rfl (e_iload dX3_lay_211 (i := 4) (x := x3) rfl (e_puti dX3_lay_213 flX3_21 (kd3_0 h_a) (Or.inl rfl) rfl k))) ?_
    refine ev_letR (fun R19 eR19 => ?_)
    refine ev_st (pc' := 229) (L' := [xR a, xI i0, xU, xI x2, xI x3, xU, xU, xU, xU, xU]) (st' := []) (fun _ _ _ k => e_aload_n dX3_lay_216 rfl (i := 0) (x := a) rfl (e_aload_n dX3_lay_217 rfl (i := 0) (x := a) rfl (e_geti dX3_lay_218 flX3_24 (kd3_0 h_a) (Or.inl rfl) (e_bipush dX3_lay_221 rfl (k4 rfl) (e_imul dX3_lay_223 (e_iload_n dX3_lay_224 rfl (i := 1) (x := i0) rfl (e_iadd dX3_lay_225 (e_puti dX3_lay_226 flX3_24 (kd3_0 h_a) (Or.inl rfl) rfl k)))))))) ?_
    refine ev_letR (fun R20 eR20 => ?_)
    refine ev_st (pc' := 239) (L' := [xR a, xI i0, xU, xI x2, xI x3, xU, xU, xU, xU, xU]) (st' := []) (fun _ _ _ k => e_aload_n dX3_lay_229 rfl (i := 0) (x := a) rfl (e_dupR dX3_lay_230 (e_geti dX3_lay_231 flX3_27 (kd3_0 h_a) (Or.inl rfl) (e_iconst dX3_lay_234 (k4 rfl) (e_iadd dX3_lay_235 (e_puti dX3_lay_236 flX3_27 (kd3_0 h_a) (Or.inl rfl) rfl k)))))) ?_
    refine ev_letR (fun R21 eR21 => ?_)
    exact ev_ret (e_vret dX3_lay_239)
  · refine ev_st (pc' := 7) (L' := [xR a, xI i0, xU, xU, xU, xU, xU, xU, xU, xU]) (st' := [xI 2, xI i0]) (fun _ _ _ k => e_iload_n dX3_lay_5 rfl (i := 1) (x := i0) rfl (e_iconst dX3_lay_6 (k4 rfl) k)) ?_
    refine ev_br2 (P := i0 = 2) (pct := 10) (pcf := 14) (st' := []) (fun _ _ _ kt kf => e_cne dX3_lay_7 (tgt := 14) rfl kt kf) (fun h22 => ?_) (fun h22 => ?_)
    · refine ev_st (pc' := 20) (L' := [xR a, xI i0, xI 1, xU, xU, xU, xU, xU, xU, xU]) (st' := []) (fun _ _ _ k => e_iconst dX3_lay_10 (k4 rfl) (e_goto dX3_lay_11 (tgt := 15) rfl (e_istore_n dX3_lay_15 rfl (i := 2) rfl (L' := [xR a, xI i0, xI 1, xU, xU, xU, xU, xU, xU, xU]) rfl (e_iload_n dX3_lay_16 rfl (i := 2) (x := 1) rfl (e_ifeqF dX3_lay_17 (tgt := 27) rfl (by decide) k))))) ?_
      refine ev_st (pc' := 33) (L' := [xR a, xI i0, xI 1, xU, xU, xU, xU, xU, xU, xU]) (st' := [xI (R a 2)]) (fun _ _ _ k => e_aload_n dX3_lay_20 rfl (i := 0) (x := a) rfl (e_geti dX3_lay_21 flX3_18 (kd3_0 h_a) (Or.inl rfl) (e_goto dX3_lay_24 (tgt := 33) rfl k))) ?_
      refine ev_leti (fun x23 ex23 => ?_)
      refine ev_st (pc' := 34) (L' := [xR a, xI i0, xI 1, xI x23, xU, xU, xU, xU, xU, xU]) (st' := []) (fun _ _ _ k => e_istore_n dX3_lay_33 rfl (i := 3) rfl (L' := [xR a, xI i0, xI 1, xI x23, xU, xU, xU, xU, xU, xU]) rfl k) ?_
      refine ev_st (pc' := 38) (L' := [xR a, xI i0, xI 1, xI x23, xU, xU, xU, xU, xU, xU]) (st' := []) (fun _ _ _ k => e_iload_n dX3_lay_34 rfl (i := 2) (x := 1) rfl (e_ifeqF dX3_lay_35 (tgt := 47) rfl (by decide) k)) ?_
      refine ev_st (pc' := 51) (L' := [xR a, xI i0, xI 1, xI x23, xU, xU, xU, xU, xU, xU]) (st' := [xI (w4 (Int.tdiv (R a 3) 2))]) (fun _ _ _ k => e_aload_n dX3_lay_38 rfl (i := 0) (x := a) rfl (e_geti dX3_lay_39 flX3_21 (kd3_0 h_a) (Or.inl rfl) (e_iconst dX3_lay_42 (k4 rfl) (e_idiv dX3_lay_43 (by decide) (e_goto dX3_lay_44 (tgt := 51) rfl k))))) ?_
      refine ev_leti (fun x24 ex24 => ?_)
      refine ev_st (pc' := 53) (L' := [xR a, xI i0, xI 1, xI x23, xI x24, xU, xU, xU, xU, xU]) (st' := []) (fun _ _ _ k => e_istore dX3_lay_51 (i := 4) rfl (L' := [xR a, xI i0, xI 1, xI x23, xI x24, xU, xU, xU, xU, xU]) rfl k) ?_
      refine ev_st (pc' := 56) (L' := [xR a, xI i0, xI 1, xI x23, xI x24, xI 0, xU, xU, xU, xU]) (st' := []) (fun _ _ _ k => e_iconst dX3_lay_53 (k4 rfl) (e_istore dX3_lay_54 (i := 5) rfl (L' := [xR a, xI i0, xI 1, xI x23, xI x24, xI 0, xU, xU, xU, xU]) rfl k)) ?_
      refine lc_X3_lay_56 h_a i0 x23 x24 (fun z25 R26 => ?_) 6000 0 R
      refine ev_st (pc' := 205) (L' := [xR a, xI i0, xU, xI x23, xI x24, xU, xU, xU, xU, xU]) (st' := []) (fun _ _ _ k => e_aload_n dX3_lay_190 rfl (i := 0) (x := a) rfl (e_getr dX3_lay_191 flX3_34 (kd3_0 h_a) rfl (rf3_0_7 h_a) (e_iconst dX3_lay_194 (k4 rfl) (e_aload_n dX3_lay_195 rfl (i := 0) (x := a) rfl (e_getr dX3_lay_196 flX3_30 (kd3_0 h_a) rfl (rf3_0_6 h_a) (e_iconst dX3_lay_199 (k4 rfl) (e_bipush dX3_lay_200 rfl (k4 rfl) (e_copy dX3_lay_202 cw_329 cw_324 cw_323 cw_12 (kd3_2 h_a) (kd3_1 h_a) (by decide) (by decide) (by decide) (by decide) (by decide) rfl k)))))))) ?_
      refine ev_letR (fun R27 eR27 => ?_)
      refine ev_st (pc' := 210) (L' := [xR a, xI i0, xU, xI x23, xI x24, xU, xU, xU, xU, xU]) (st' := []) (fun _ _ _ k => e_aload_n dX3_lay_205 rfl (i := 0) (x := a) rfl (e_iload_n dX3_lay_206 rfl (i := 3) (x := x23) rfl (e_puti dX3_lay_207 flX3_18 (kd3_0 h_a) (Or.inl rfl) rfl k))) ?_
      refine ev_letR (fun R28 eR28 => ?_)
      refine ev_st (pc' := 216) (L' := [xR a, xI i0, xU, xI x23, xI x24, xU, xU, xU, xU, xU]) (st' := []) (fun _ _ _ k => e_aload_n dX3_lay_210 rfl (i := 0) (x := a) rfl (e_iload dX3_lay_211 (i := 4) (x := x24) rfl (e_puti dX3_lay_213 flX3_21 (kd3_0 h_a) (Or.inl rfl) rfl k))) ?_
      refine ev_letR (fun R29 eR29 => ?_)
      refine ev_st (pc' := 229) (L' := [xR a, xI i0, xU, xI x23, xI x24, xU, xU, xU, xU, xU]) (st' := []) (fun _ _ _ k => e_aload_n dX3_lay_216 rfl (i := 0) (x := a) rfl (e_aload_n dX3_lay_217 rfl (i := 0) (x := a) rfl (e_geti dX3_lay_218 flX3_24 (kd3_0 h_a) (Or.inl rfl) (e_bipush dX3_lay_221 rfl (k4 rfl) (e_imul dX3_lay_223 (e_iload_n dX3_lay_224 rfl (i := 1) (x := i0) rfl (e_iadd dX3_lay_225 (e_puti dX3_lay_226 flX3_24 (kd3_0 h_a) (Or.inl rfl) rfl k)))))))) ?_
      refine ev_letR (fun R30 eR30 => ?_)
      refine ev_st (pc' := 239) (L' := [xR a, xI i0, xU, xI x23, xI x24, xU, xU, xU, xU, xU]) (st' := []) (fun _ _ _ k => e_aload_n dX3_lay_229 rfl (i := 0) (x := a) rfl (e_dupR dX3_lay_230 (e_geti dX3_lay_231 flX3_27 (kd3_0 h_a) (Or.inl rfl) (e_iconst dX3_lay_234 (k4 rfl) (e_iadd dX3_lay_235 (e_puti dX3_lay_236 flX3_27 (kd3_0 h_a) (Or.inl rfl) rfl k)))))) ?_
      refine ev_letR (fun R31 eR31 => ?_)
      exact ev_ret (e_vret dX3_lay_239)
    · refine ev_st (pc' := 27) (L' := [xR a, xI i0, xI 0, xU, xU, xU, xU, xU, xU, xU]) (st' := []) (fun _ _ _ k => e_iconst dX3_lay_14 (k4 rfl) (e_istore_n dX3_lay_15 rfl (i := 2) rfl (L' := [xR a, xI i0, xI 0, xU, xU, xU, xU, xU, xU, xU]) rfl (e_iload_n dX3_lay_16 rfl (i := 2) (x := 0) rfl (e_ifeqT dX3_lay_17 (tgt := 27) rfl (by decide) k)))) ?_
      refine ev_st (pc' := 33) (L' := [xR a, xI i0, xI 0, xU, xU, xU, xU, xU, xU, xU]) (st' := [xI (w4 (Int.tdiv (R a 2) 2))]) (fun _ _ _ k => e_aload_n dX3_lay_27 rfl (i := 0) (x := a) rfl (e_geti dX3_lay_28 flX3_18 (kd3_0 h_a) (Or.inl rfl) (e_iconst dX3_lay_31 (k4 rfl) (e_idiv dX3_lay_32 (by decide) k)))) ?_
      refine ev_leti (fun x32 ex32 => ?_)
      refine ev_st (pc' := 34) (L' := [xR a, xI i0, xI 0, xI x32, xU, xU, xU, xU, xU, xU]) (st' := []) (fun _ _ _ k => e_istore_n dX3_lay_33 rfl (i := 3) rfl (L' := [xR a, xI i0, xI 0, xI x32, xU, xU, xU, xU, xU, xU]) rfl k) ?_
      refine ev_st (pc' := 47) (L' := [xR a, xI i0, xI 0, xI x32, xU, xU, xU, xU, xU, xU]) (st' := []) (fun _ _ _ k => e_iload_n dX3_lay_34 rfl (i := 2) (x := 0) rfl (e_ifeqT dX3_lay_35 (tgt := 47) rfl (by decide) k)) ?_
      refine ev_st (pc' := 51) (L' := [xR a, xI i0, xI 0, xI x32, xU, xU, xU, xU, xU, xU]) (st' := [xI (R a 3)]) (fun _ _ _ k => e_aload_n dX3_lay_47 rfl (i := 0) (x := a) rfl (e_geti dX3_lay_48 flX3_21 (kd3_0 h_a) (Or.inl rfl) k)) ?_
      refine ev_leti (fun x33 ex33 => ?_)
      refine ev_st (pc' := 53) (L' := [xR a, xI i0, xI 0, xI x32, xI x33, xU, xU, xU, xU, xU]) (st' := []) (fun _ _ _ k => e_istore dX3_lay_51 (i := 4) rfl (L' := [xR a, xI i0, xI 0, xI x32, xI x33, xU, xU, xU, xU, xU]) rfl k) ?_
      refine ev_st (pc' := 56) (L' := [xR a, xI i0, xI 0, xI x32, xI x33, xI 0, xU, xU, xU, xU]) (st' := []) (fun _ _ _ k => e_iconst dX3_lay_53 (k4 rfl) (e_istore dX3_lay_54 (i := 5) rfl (L' := [xR a, xI i0, xI 0, xI x32, xI x33, xI 0, xU, xU, xU, xU]) rfl k)) ?_
      refine lc_X3_lay_56_1 h_a i0 x32 x33 (fun z45 R46 => ?_) 6000 0 R
      refine ev_st (pc' := 205) (L' := [xR a, xI i0, xU, xI x32, xI x33, xU, xU, xU, xU, xU]) (st' := []) (fun _ _ _ k => e_aload_n dX3_lay_190 rfl (i := 0) (x := a) rfl (e_getr dX3_lay_191 flX3_34 (kd3_0 h_a) rfl (rf3_0_7 h_a) (e_iconst dX3_lay_194 (k4 rfl) (e_aload_n dX3_lay_195 rfl (i := 0) (x := a) rfl (e_getr dX3_lay_196 flX3_30 (kd3_0 h_a) rfl (rf3_0_6 h_a) (e_iconst dX3_lay_199 (k4 rfl) (e_bipush dX3_lay_200 rfl (k4 rfl) (e_copy dX3_lay_202 cw_329 cw_324 cw_323 cw_12 (kd3_2 h_a) (kd3_1 h_a) (by decide) (by decide) (by decide) (by decide) (by decide) rfl k)))))))) ?_
      refine ev_letR (fun R47 eR47 => ?_)
      refine ev_st (pc' := 210) (L' := [xR a, xI i0, xU, xI x32, xI x33, xU, xU, xU, xU, xU]) (st' := []) (fun _ _ _ k => e_aload_n dX3_lay_205 rfl (i := 0) (x := a) rfl (e_iload_n dX3_lay_206 rfl (i := 3) (x := x32) rfl (e_puti dX3_lay_207 flX3_18 (kd3_0 h_a) (Or.inl rfl) rfl k))) ?_
      refine ev_letR (fun R48 eR48 => ?_)
      refine ev_st (pc' := 216) (L' := [xR a, xI i0, xU, xI x32, xI x33, xU, xU, xU, xU, xU]) (st' := []) (fun _ _ _ k => e_aload_n dX3_lay_210 rfl (i := 0) (x := a) rfl (e_iload dX3_lay_211 (i := 4) (x := x33) rfl (e_puti dX3_lay_213 flX3_21 (kd3_0 h_a) (Or.inl rfl) rfl k))) ?_
      refine ev_letR (fun R49 eR49 => ?_)
      refine ev_st (pc' := 229) (L' := [xR a, xI i0, xU, xI x32, xI x33, xU, xU, xU, xU, xU]) (st' := []) (fun _ _ _ k => e_aload_n dX3_lay_216 rfl (i := 0) (x := a) rfl (e_aload_n dX3_lay_217 rfl (i := 0) (x := a) rfl (e_geti dX3_lay_218 flX3_24 (kd3_0 h_a) (Or.inl rfl) (e_bipush dX3_lay_221 rfl (k4 rfl) (e_imul dX3_lay_223 (e_iload_n dX3_lay_224 rfl (i := 1) (x := i0) rfl (e_iadd dX3_lay_225 (e_puti dX3_lay_226 flX3_24 (kd3_0 h_a) (Or.inl rfl) rfl k)))))))) ?_
      refine ev_letR (fun R50 eR50 => ?_)
      refine ev_st (pc' := 239) (L' := [xR a, xI i0, xU, xI x32, xI x33, xU, xU, xU, xU, xU]) (st' := []) (fun _ _ _ k => e_aload_n dX3_lay_229 rfl (i := 0) (x := a) rfl (e_dupR dX3_lay_230 (e_geti dX3_lay_231 flX3_27 (kd3_0 h_a) (Or.inl rfl) (e_iconst dX3_lay_234 (k4 rfl) (e_iadd dX3_lay_235 (e_puti dX3_lay_236 flX3_27 (kd3_0 h_a) (Or.inl rfl) rfl k)))))) ?_
      refine ev_letR (fun R51 eR51 => ?_)
      exact ev_ret (e_vret dX3_lay_239)
def f_X0_foldOnce (a : Nat) (i0 : Int) (R : xN) : Option (Int × xN) :=
  (f_X9_isIn i0 1 4 R).bind (fun v1 =>
  if v1 = true then
  (f_X0_isFixed a R).bind (fun v3 =>
  if v3 = true then
  some ((-2), R)
  else
  (f_X3_canFold (a + 4) i0 R).bind (fun v5 =>
  if v5 = true then
  (f_X3_depth (a + 4) R).bind (fun v7 =>
  xlet (xup R (a + 13) 0 (w4 ((R (a + 13) 0) + v7))) (fun R8 =>
  (f_X3_lay (a + 4) i0 R8).bind (fun v9 =>
  (f_X3_depth (a + 4) v9).bind (fun v10 =>
  some (v10, v9)))))
  else
  some ((-2), R)))
  else
  some ((-1), R))
set_option maxRecDepth 20000 in
set_option maxHeartbeats 4000000 in
theorem c_X0_foldOnce {l : Launch} {g : xG} {d : Nat} {A : xA} {R : xN} {a : Nat} (h_a : sh 0 A a) (i0 : Int) : Ev l g (d + 3) mX0_foldOnce 0 [xR a, xI i0] [] A R (fun v : Int × xN => some (xI v.1)) (fun v => v.2) (f_X0_foldOnce a i0 R) := by
  rw [f_X0_foldOnce]
  refine ev_st (pc' := 3) (L' := [xR a, xI i0]) (st' := [xI 4, xI 1, xI i0]) (fun _ _ _ k => e_iload_n dX0_foldOnce_0 rfl (i := 1) (x := i0) rfl (e_iconst dX0_foldOnce_1 (k4 rfl) (e_iconst dX0_foldOnce_2 (k4 rfl) k))) ?_
  refine ev_callN (As := [xI i0, xI 1, xI 4]) (st := []) (fun v1 => [xI (xz v1)]) dX0_foldOnce_3 mlX0_92 rfl rfl rfl rfl rfl rfl (c_X9_isIn (d := d + 2) i0 1 4) (fun _ => xz01 _) (fun _ => rfl) (fun v1 => ?_)
  refine ev_br2 (P := v1 = true) (pct := 11) (pcf := 9) (st' := []) (fun _ _ _ kt kf => e_ifnez dX0_foldOnce_6 (tgt := 11) rfl kt kf) (fun h2 => ?_) (fun h2 => ?_)
  · refine ev_st (pc' := 12) (L' := [xR a, xI i0]) (st' := [xR a]) (fun _ _ _ k => e_aload_n dX0_foldOnce_11 rfl (i := 0) (x := a) rfl k) ?_
    refine ev_callV (As := []) (st := []) (fun v3 => [xI (xz v3)]) dX0_foldOnce_12 mlX0_88 (kd0_0 h_a) rfl rfl rfl rfl rfl rfl (c_X0_isFixed (d := d + 2) h_a) (fun _ => xz01 _) (fun _ => rfl) (fun v3 => ?_)
    refine ev_br2 (P := v3 = true) (pct := 29) (pcf := 18) (st' := []) (fun _ _ _ kt kf => e_ifnez dX0_foldOnce_15 (tgt := 29) rfl kt kf) (fun h4 => ?_) (fun h4 => ?_)
    · exact ev_ret (e_bipush dX0_foldOnce_29 rfl (k4 rfl) (e_iret dX0_foldOnce_31))
    · refine ev_st (pc' := 23) (L' := [xR a, xI i0]) (st' := [xI i0, xR (a + 4)]) (fun _ _ _ k => e_aload_n dX0_foldOnce_18 rfl (i := 0) (x := a) rfl (e_getr dX0_foldOnce_19 flX0_21 (kd0_0 h_a) rfl (rf0_0_1 h_a) (e_iload_n dX0_foldOnce_22 rfl (i := 1) (x := i0) rfl k))) ?_
      refine ev_callV (As := [xI i0]) (st := []) (fun v5 => [xI (xz v5)]) dX0_foldOnce_23 mlX0_104 (kd0_4 h_a) rfl rfl rfl rfl rfl rfl (c_X3_canFold (d := d + 2) (sb0_4_3 h_a) i0) (fun _ => xz01 _) (fun _ => rfl) (fun v5 => ?_)
      refine ev_br2 (P := v5 = true) (pct := 32) (pcf := 29) (st' := []) (fun _ _ _ kt kf => e_ifnez dX0_foldOnce_26 (tgt := 32) rfl kt kf) (fun h6 => ?_) (fun h6 => ?_)
      · refine ev_st (pc' := 43) (L' := [xR a, xI i0]) (st' := [xR (a + 4), xI (R (a + 13) 0), xI 0, xR (a + 13)]) (fun _ _ _ k => e_aload_n dX0_foldOnce_32 rfl (i := 0) (x := a) rfl (e_getr dX0_foldOnce_33 flX0_39 (kd0_0 h_a) rfl (rf0_0_4 h_a) (e_iconst dX0_foldOnce_36 (k4 rfl) (e_dup2 dX0_foldOnce_37 (e_iald dX0_foldOnce_38 (kd0_13 h_a) (by decide) (by decide) (e_aload_n dX0_foldOnce_39 rfl (i := 0) (x := a) rfl (e_getr dX0_foldOnce_40 flX0_21 (kd0_0 h_a) rfl (rf0_0_1 h_a) k))))))) ?_
        refine ev_callV (As := []) (st := [xI (R (a + 13) 0), xI 0, xR (a + 13)]) (fun v7 => [xI v7, xI (R (a + 13) 0), xI 0, xR (a + 13)]) dX0_foldOnce_43 mlX0_107 (kd0_4 h_a) rfl rfl rfl rfl rfl rfl (c_X3_depth (d := d + 2) (sb0_4_3 h_a)) (fun _ => trivial) (fun _ => rfl) (fun v7 => ?_)
        refine ev_st (pc' := 48) (L' := [xR a, xI i0]) (st' := []) (fun _ _ _ k => e_iadd dX0_foldOnce_46 (e_iast dX0_foldOnce_47 (kd0_13 h_a) (by decide) (by decide) k)) ?_
        refine ev_letR (fun R8 eR8 => ?_)
        refine ev_st (pc' := 53) (L' := [xR a, xI i0]) (st' := [xI i0, xR (a + 4)]) (fun _ _ _ k => e_aload_n dX0_foldOnce_48 rfl (i := 0) (x := a) rfl (e_getr dX0_foldOnce_49 flX0_21 (kd0_0 h_a) rfl (rf0_0_1 h_a) (e_iload_n dX0_foldOnce_52 rfl (i := 1) (x := i0) rfl k))) ?_
        refine ev_callV (As := [xI i0]) (st := []) (fun v9 => []) dX0_foldOnce_53 mlX0_110 (kd0_4 h_a) rfl rfl rfl rfl rfl rfl (c_X3_lay (d := d) (sb0_4_3 h_a) i0) (fun _ => trivial) (fun _ => rfl) (fun v9 => ?_)
        refine ev_st (pc' := 60) (L' := [xR a, xI i0]) (st' := [xR (a + 4)]) (fun _ _ _ k => e_aload_n dX0_foldOnce_56 rfl (i := 0) (x := a) rfl (e_getr dX0_foldOnce_57 flX0_21 (kd0_0 h_a) rfl (rf0_0_1 h_a) k)) ?_
        refine ev_callV (As := []) (st := []) (fun v10 => [xI v10]) dX0_foldOnce_60 mlX0_107 (kd0_4 h_a) rfl rfl rfl rfl rfl rfl (c_X3_depth (d := d + 2) (sb0_4_3 h_a)) (fun _ => trivial) (fun _ => rfl) (fun v10 => ?_)
        exact ev_ret (e_iret dX0_foldOnce_63)
      · exact ev_ret (e_bipush dX0_foldOnce_29 rfl (k4 rfl) (e_iret dX0_foldOnce_31))
  · exact ev_ret (e_iconst dX0_foldOnce_9 (k4 rfl) (e_iret dX0_foldOnce_10))
def f_X3_isBooklet (a : Nat) (R : xN) : Option (Bool) :=
  if (R a 2) = 1 then
  if (R a 3) = 1 then
  some true
  else
  some false
  else
  some false
set_option maxRecDepth 20000 in
set_option maxHeartbeats 4000000 in
theorem c_X3_isBooklet {l : Launch} {g : xG} {d : Nat} {A : xA} {R : xN} {a : Nat} (h_a : sh 3 A a)  : Ev l g (d) mX3_isBooklet 0 [xR a] [] A R (fun v : Bool => some (xI (xz v))) (fun _ => R) (f_X3_isBooklet a R) := by
  rw [f_X3_isBooklet]
  refine ev_st (pc' := 5) (L' := [xR a]) (st' := [xI 1, xI (R a 2)]) (fun _ _ _ k => e_aload_n dX3_isBooklet_0 rfl (i := 0) (x := a) rfl (e_geti dX3_isBooklet_1 flX3_18 (kd3_0 h_a) (Or.inl rfl) (e_iconst dX3_isBooklet_4 (k4 rfl) k))) ?_
  refine ev_br2 (P := (R a 2) = 1) (pct := 8) (pcf := 20) (st' := []) (fun _ _ _ kt kf => e_cne dX3_isBooklet_5 (tgt := 20) rfl kt kf) (fun h1 => ?_) (fun h1 => ?_)
  · refine ev_st (pc' := 13) (L' := [xR a]) (st' := [xI 1, xI (R a 3)]) (fun _ _ _ k => e_aload_n dX3_isBooklet_8 rfl (i := 0) (x := a) rfl (e_geti dX3_isBooklet_9 flX3_21 (kd3_0 h_a) (Or.inl rfl) (e_iconst dX3_isBooklet_12 (k4 rfl) k))) ?_
    refine ev_br2 (P := (R a 3) = 1) (pct := 16) (pcf := 20) (st' := []) (fun _ _ _ kt kf => e_cne dX3_isBooklet_13 (tgt := 20) rfl kt kf) (fun h2 => ?_) (fun h2 => ?_)
    · exact ev_ret (e_iconst dX3_isBooklet_16 (k4 rfl) (e_goto dX3_isBooklet_17 (tgt := 21) rfl (e_iret dX3_isBooklet_21)))
    · exact ev_ret (e_iconst dX3_isBooklet_20 (k4 rfl) (e_iret dX3_isBooklet_21))
  · exact ev_ret (e_iconst dX3_isBooklet_20 (k4 rfl) (e_iret dX3_isBooklet_21))
def lp_X3_foldBy_24 (a : Nat) (p3 : Int) : Nat → Int → xN → (Int → xN → Option (Bool × xN)) → Option (Bool × xN)
  | 0, _, _, _ => none
  | n + 1, y4, R, X =>
    if y4 ≤ 0 then
    X y4 R
    else
    if p3 < y4 then
    xlet (w4 (Int.tdiv y4 10)) (fun x6 =>
    lp_X3_foldBy_24 a p3 n x6 R X)
    else
    if y4 ≠ 0 then
    xlet (Int.tmod (w4 (Int.tdiv p3 y4)) 10) (fun x8 =>
    (f_X3_canFold a x8 R).bind (fun v9 =>
    if v9 = true then
    (f_X3_lay a x8 R).bind (fun v11 =>
    xlet (w4 (Int.tdiv y4 10)) (fun x12 =>
    lp_X3_foldBy_24 a p3 n x12 v11 X))
    else
    some (false, R)))
    else none
def f_X3_foldBy (a : Nat) (i0 : Int) (i1 : Int) (i2 : Int) (R : xN) : Option (Bool × xN) :=
  (f_X3_spread a i0 i1 R).bind (fun v1 =>
  (f_X9_isIn i2 0 4444 v1).bind (fun v2 =>
  if v2 = true then
  lp_X3_foldBy_24 a i2 6000 1000 v1 (fun z13 R14 =>
  (f_X3_isBooklet a R14).bind (fun v15 =>
  some (v15, R14)))
  else
  some (false, v1)))
set_option maxRecDepth 20000 in
set_option maxHeartbeats 4000000 in
theorem lc_X3_foldBy_24 {l : Launch} {g : xG} {d : Nat} {A : xA} {a : Nat} (h_a : sh 3 A a) (p3 : Int) {X : Int → xN → Option (Bool × xN)} (hX : ∀ (y4 : Int) (R : xN), Ev l g (d + 3) mX3_foldBy 71 [xR a, xU, xU, xU, xU, xU] [] A R (fun v : Bool × xN => some (xI (xz v.1))) (fun v => v.2) (X y4 R)) (n : Nat) (y4 : Int) (R : xN) : Ev l g (d + 3) mX3_foldBy 24 [xR a, xU, xU, xI p3, xI y4, xU] [] A R (fun v : Bool × xN => some (xI (xz v.1))) (fun v => v.2) (lp_X3_foldBy_24 a p3 n y4 R X) := by
  induction n generalizing y4 R with
  | zero => exact ev_none
  | succ n ih =>
    rw [lp_X3_foldBy_24]
    refine ev_st (pc' := 26) (L' := [xR a, xU, xU, xI p3, xI y4, xU]) (st' := [xI y4]) (fun _ _ _ k => e_iload dX3_foldBy_24 (i := 4) (x := y4) rfl k) ?_
    refine ev_br2 (P := y4 ≤ 0) (pct := 71) (pcf := 29) (st' := []) (fun _ _ _ kt kf => e_ifle dX3_foldBy_26 (tgt := 71) rfl kt kf) (fun h4 => ?_) (fun h4 => ?_)
    · refine ev_st (pc' := 71) (L' := [xR a, xU, xU, xU, xU, xU]) (st' := []) (fun _ _ _ k => e_fg [3, 4] k) ?_
      exact hX y4 R
    · refine ev_st (pc' := 32) (L' := [xR a, xU, xU, xI p3, xI y4, xU]) (st' := [xI y4, xI p3]) (fun _ _ _ k => e_iload_n dX3_foldBy_29 rfl (i := 3) (x := p3) rfl (e_iload dX3_foldBy_30 (i := 4) (x := y4) rfl k)) ?_
      refine ev_br2 (P := p3 < y4) (pct := 61) (pcf := 35) (st' := []) (fun _ _ _ kt kf => e_clt dX3_foldBy_32 (tgt := 61) rfl kt kf) (fun h5 => ?_) (fun h5 => ?_)
      · refine ev_st (pc' := 66) (L' := [xR a, xU, xU, xI p3, xI y4, xU]) (st' := [xI (w4 (Int.tdiv y4 10))]) (fun _ _ _ k => e_iload dX3_foldBy_61 (i := 4) (x := y4) rfl (e_bipush dX3_foldBy_63 rfl (k4 rfl) (e_idiv dX3_foldBy_65 (by decide) k))) ?_
        refine ev_leti (fun x6 ex6 => ?_)
        refine ev_st (pc' := 68) (L' := [xR a, xU, xU, xI p3, xI x6, xU]) (st' := []) (fun _ _ _ k => e_istore dX3_foldBy_66 (i := 4) rfl (L' := [xR a, xU, xU, xI p3, xI x6, xU]) rfl k) ?_
        refine ev_st (pc' := 24) (L' := [xR a, xU, xU, xI p3, xI x6, xU]) (st' := []) (fun _ _ _ k => e_goto dX3_foldBy_68 (tgt := 24) rfl k) ?_
        exact ih x6 R
      · refine ev_st (pc' := 38) (L' := [xR a, xU, xU, xI p3, xI y4, xU]) (st' := [xI y4, xI p3]) (fun _ _ _ k => e_iload_n dX3_foldBy_35 rfl (i := 3) (x := p3) rfl (e_iload dX3_foldBy_36 (i := 4) (x := y4) rfl k)) ?_
        refine ev_chk (fun h7 => ?_)
        refine ev_st (pc' := 39) (L' := [xR a, xU, xU, xI p3, xI y4, xU]) (st' := [xI (w4 (Int.tdiv p3 y4))]) (fun _ _ _ k => e_idiv dX3_foldBy_38 h7 k) ?_
        refine ev_st (pc' := 42) (L' := [xR a, xU, xU, xI p3, xI y4, xU]) (st' := [xI (Int.tmod (w4 (Int.tdiv p3 y4)) 10)]) (fun _ _ _ k => e_bipush dX3_foldBy_39 rfl (k4 rfl) (e_irem dX3_foldBy_41 (by decide) k)) ?_
        refine ev_leti (fun x8 ex8 => ?_)
        refine ev_st (pc' := 44) (L' := [xR a, xU, xU, xI p3, xI y4, xI x8]) (st' := []) (fun _ _ _ k => e_istore dX3_foldBy_42 (i := 5) rfl (L' := [xR a, xU, xU, xI p3, xI y4, xI x8]) rfl k) ?_
        refine ev_st (pc' := 47) (L' := [xR a, xU, xU, xI p3, xI y4, xI x8]) (st' := [xI x8, xR a]) (fun _ _ _ k => e_aload_n dX3_foldBy_44 rfl (i := 0) (x := a) rfl (e_iload dX3_foldBy_45 (i := 5) (x := x8) rfl k)) ?_
        refine ev_callV (As := [xI x8]) (st := []) (fun v9 => [xI (xz v9)]) dX3_foldBy_47 mlX3_67 (kd3_0 h_a) rfl rfl rfl rfl rfl rfl (c_X3_canFold (d := d + 2) h_a x8) (fun _ => xz01 _) (fun _ => rfl) (fun v9 => ?_)
        refine ev_br2 (P := v9 = true) (pct := 55) (pcf := 53) (st' := []) (fun _ _ _ kt kf => e_ifnez dX3_foldBy_50 (tgt := 55) rfl kt kf) (fun h10 => ?_) (fun h10 => ?_)
        · refine ev_st (pc' := 58) (L' := [xR a, xU, xU, xI p3, xI y4, xI x8]) (st' := [xI x8, xR a]) (fun _ _ _ k => e_aload_n dX3_foldBy_55 rfl (i := 0) (x := a) rfl (e_iload dX3_foldBy_56 (i := 5) (x := x8) rfl k)) ?_
          refine ev_callV (As := [xI x8]) (st := []) (fun v11 => []) dX3_foldBy_58 mlX3_71 (kd3_0 h_a) rfl rfl rfl rfl rfl rfl (c_X3_lay (d := d) h_a x8) (fun _ => trivial) (fun _ => rfl) (fun v11 => ?_)
          refine ev_st (pc' := 66) (L' := [xR a, xU, xU, xI p3, xI y4, xI x8]) (st' := [xI (w4 (Int.tdiv y4 10))]) (fun _ _ _ k => e_iload dX3_foldBy_61 (i := 4) (x := y4) rfl (e_bipush dX3_foldBy_63 rfl (k4 rfl) (e_idiv dX3_foldBy_65 (by decide) k))) ?_
          refine ev_leti (fun x12 ex12 => ?_)
          refine ev_st (pc' := 68) (L' := [xR a, xU, xU, xI p3, xI x12, xI x8]) (st' := []) (fun _ _ _ k => e_istore dX3_foldBy_66 (i := 4) rfl (L' := [xR a, xU, xU, xI p3, xI x12, xI x8]) rfl k) ?_
          refine ev_st (pc' := 24) (L' := [xR a, xU, xU, xI p3, xI x12, xU]) (st' := []) (fun _ _ _ k => e_goto dX3_foldBy_68 (tgt := 24) rfl (e_fg [5] k)) ?_
          exact ih x12 v11
        · exact ev_ret (e_iconst dX3_foldBy_53 (k4 rfl) (e_iret dX3_foldBy_54))
set_option maxRecDepth 20000 in
set_option maxHeartbeats 4000000 in
theorem c_X3_foldBy {l : Launch} {g : xG} {d : Nat} {A : xA} {R : xN} {a : Nat} (h_a : sh 3 A a) (i0 : Int) (i1 : Int) (i2 : Int) : Ev l g (d + 3) mX3_foldBy 0 [xR a, xI i0, xI i1, xI i2, xU, xU] [] A R (fun v : Bool × xN => some (xI (xz v.1))) (fun v => v.2) (f_X3_foldBy a i0 i1 i2 R) := by
  rw [f_X3_foldBy]
  refine ev_st (pc' := 3) (L' := [xR a, xI i0, xI i1, xI i2, xU, xU]) (st' := [xI i1, xI i0, xR a]) (fun _ _ _ k => e_aload_n dX3_foldBy_0 rfl (i := 0) (x := a) rfl (e_iload_n dX3_foldBy_1 rfl (i := 1) (x := i0) rfl (e_iload_n dX3_foldBy_2 rfl (i := 2) (x := i1) rfl k))) ?_
  refine ev_callV (As := [xI i0, xI i1]) (st := []) (fun v1 => []) dX3_foldBy_3 mlX3_59 (kd3_0 h_a) rfl rfl rfl rfl rfl rfl (c_X3_spread (d := d + 1) h_a i0 i1) (fun _ => trivial) (fun _ => rfl) (fun v1 => ?_)
  refine ev_st (pc' := 11) (L' := [xR a, xI i0, xI i1, xI i2, xU, xU]) (st' := [xI 4444, xI 0, xI i2]) (fun _ _ _ k => e_iload_n dX3_foldBy_6 rfl (i := 3) (x := i2) rfl (e_iconst dX3_foldBy_7 (k4 rfl) (e_sipush dX3_foldBy_8 rfl (k4 rfl) k))) ?_
  refine ev_callN (As := [xI i2, xI 0, xI 4444]) (st := []) (fun v2 => [xI (xz v2)]) dX3_foldBy_11 mlX3_63 rfl rfl rfl rfl rfl rfl (c_X9_isIn (d := d + 2) i2 0 4444) (fun _ => xz01 _) (fun _ => rfl) (fun v2 => ?_)
  refine ev_br2 (P := v2 = true) (pct := 19) (pcf := 17) (st' := []) (fun _ _ _ kt kf => e_ifnez dX3_foldBy_14 (tgt := 19) rfl kt kf) (fun h3 => ?_) (fun h3 => ?_)
  · refine ev_st (pc' := 24) (L' := [xR a, xU, xU, xI i2, xI 1000, xU]) (st' := []) (fun _ _ _ k => e_sipush dX3_foldBy_19 rfl (k4 rfl) (e_istore dX3_foldBy_22 (i := 4) rfl (L' := [xR a, xI i0, xI i1, xI i2, xI 1000, xU]) rfl (e_fg [1, 2] k))) ?_
    refine lc_X3_foldBy_24 h_a i2 (fun z13 R14 => ?_) 6000 1000 v1
    refine ev_st (pc' := 72) (L' := [xR a, xU, xU, xU, xU, xU]) (st' := [xR a]) (fun _ _ _ k => e_aload_n dX3_foldBy_71 rfl (i := 0) (x := a) rfl k) ?_
    refine ev_callV (As := []) (st := []) (fun v15 => [xI (xz v15)]) dX3_foldBy_72 mlX3_75 (kd3_0 h_a) rfl rfl rfl rfl rfl rfl (c_X3_isBooklet (d := d + 2) h_a) (fun _ => xz01 _) (fun _ => rfl) (fun v15 => ?_)
    exact ev_ret (e_iret dX3_foldBy_75)
  · exact ev_ret (e_iconst dX3_foldBy_17 (k4 rfl) (e_iret dX3_foldBy_18))
