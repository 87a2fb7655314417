def f_X9_staple (a : Nat) (i0 : Int) (R : xN) : Option (Int × xN) :=
  (f_X1_keep (a + 45) (a + 1) R).bind (fun v1 =>
  (f_X0_setStaple (a + 2) i0 v1).bind (fun v2 =>
  (f_X1_settle (a + 45) v2.1 v2.2).bind (fun v3 =>
  some (v3.1, v3.2))))
set_option maxRecDepth 20000 in
set_option maxHeartbeats 4000000 in
theorem c_X9_staple {l : Launch} {g : xG} {d : Nat} {A : xA} {R : xN} {a : Nat} (h_a : sh 9 A a) (i0 : Int) : Ev l g (d + 5) mX9_staple 0 [xR a, xI i0] [] A R (fun v : Int × xN => some (xI v.1)) (fun v => v.2) (f_X9_staple a i0 R) := by
  rw [f_X9_staple]
  refine ev_st (pc' := 8) (L' := [xR a, xI i0]) (st' := [xR (a + 1), xR (a + 45)]) (fun _ _ _ k => e_aload_n dX9_staple_0 rfl (i := 0) (x := a) rfl (e_getr dX9_staple_1 flX9_19 (kd9_0 h_a) rfl (rf9_0_1 h_a) (e_aload_n dX9_staple_4 rfl (i := 0) (x := a) rfl (e_getr dX9_staple_5 flX9_10 (kd9_0 h_a) rfl (rf9_0_0 h_a) k)))) ?_
  refine ev_callV (As := [xR (a + 1)]) (st := []) (fun v1 => []) dX9_staple_8 mlX9_58 (kd9_45 h_a) rfl rfl rfl rfl rfl rfl (c_X1_keep (d := d) (sb9_45_1 h_a) (sb9_1_8 h_a)) (fun _ => trivial) (fun _ => rfl) (fun v1 => ?_)
  refine ev_st (pc' := 23) (L' := [xR a, xI i0]) (st' := [xI i0, xR (a + 2), xR (a + 45)]) (fun _ _ _ k => e_aload_n dX9_staple_11 rfl (i := 0) (x := a) rfl (e_getr dX9_staple_12 flX9_19 (kd9_0 h_a) rfl (rf9_0_1 h_a) (e_aload_n dX9_staple_15 rfl (i := 0) (x := a) rfl (e_getr dX9_staple_16 flX9_10 (kd9_0 h_a) rfl (rf9_0_0 h_a) (e_getr dX9_staple_19 flX9_62 (kd9_1 h_a) rfl (rf9_1_0 h_a) (e_iload_n dX9_staple_22 rfl (i := 1) (x := i0) rfl k)))))) ?_
  refine ev_callV (As := [xI i0]) (st := [xR (a + 45)]) (fun v2 => [xI v2.1, xR (a + 45)]) dX9_staple_23 mlX9_97 (kd9_2 h_a) rfl rfl rfl rfl rfl rfl (c_X0_setStaple (d := d + 3) (sb9_2_0 h_a) i0) (fun _ => trivial) (fun _ => rfl) (fun v2 => ?_)
  refine ev_callV (As := [xI v2.1]) (st := []) (fun v3 => [xI v3.1]) dX9_staple_26 mlX9_72 (kd9_45 h_a) rfl rfl rfl rfl rfl rfl (c_X1_settle (d := d + 2) (sb9_45_1 h_a) v2.1) (fun _ => trivial) (fun _ => rfl) (fun v3 => ?_)
  exact ev_ret (e_iret dX9_staple_29)
def f_X9_unstaple (a : Nat) (i0 : Int) (R : xN) : Option (Int × xN) :=
  (f_X1_keep (a + 45) (a + 1) R).bind (fun v1 =>
  (f_X0_drawStaple (a + 2) i0 v1).bind (fun v2 =>
  (f_X1_settle (a + 45) v2.1 v2.2).bind (fun v3 =>
  some (v3.1, v3.2))))
set_option maxRecDepth 20000 in
set_option maxHeartbeats 4000000 in
theorem c_X9_unstaple {l : Launch} {g : xG} {d : Nat} {A : xA} {R : xN} {a : Nat} (h_a : sh 9 A a) (i0 : Int) : Ev l g (d + 5) mX9_unstaple 0 [xR a, xI i0] [] A R (fun v : Int × xN => some (xI v.1)) (fun v => v.2) (f_X9_unstaple a i0 R) := by
  rw [f_X9_unstaple]
  refine ev_st (pc' := 8) (L' := [xR a, xI i0]) (st' := [xR (a + 1), xR (a + 45)]) (fun _ _ _ k => e_aload_n dX9_unstaple_0 rfl (i := 0) (x := a) rfl (e_getr dX9_unstaple_1 flX9_19 (kd9_0 h_a) rfl (rf9_0_1 h_a) (e_aload_n dX9_unstaple_4 rfl (i := 0) (x := a) rfl (e_getr dX9_unstaple_5 flX9_10 (kd9_0 h_a) rfl (rf9_0_0 h_a) k)))) ?_
  refine ev_callV (As := [xR (a + 1)]) (st := []) (fun v1 => []) dX9_unstaple_8 mlX9_58 (kd9_45 h_a) rfl rfl rfl rfl rfl rfl (c_X1_keep (d := d) (sb9_45_1 h_a) (sb9_1_8 h_a)) (fun _ => trivial) (fun _ => rfl) (fun v1 => ?_)
  refine ev_st (pc' := 23) (L' := [xR a, xI i0]) (st' := [xI i0, xR (a + 2), xR (a + 45)]) (fun _ _ _ k => e_aload_n dX9_unstaple_11 rfl (i := 0) (x := a) rfl (e_getr dX9_unstaple_12 flX9_19 (kd9_0 h_a) rfl (rf9_0_1 h_a) (e_aload_n dX9_unstaple_15 rfl (i := 0) (x := a) rfl (e_getr dX9_unstaple_16 flX9_10 (kd9_0 h_a) rfl (rf9_0_0 h_a) (e_getr dX9_unstaple_19 flX9_62 (kd9_1 h_a) rfl (rf9_1_0 h_a) (e_iload_n dX9_unstaple_22 rfl (i := 1) (x := i0) rfl k)))))) ?_
  refine ev_callV (As := [xI i0]) (st := [xR (a + 45)]) (fun v2 => [xI v2.1, xR (a + 45)]) dX9_unstaple_23 mlX9_100 (kd9_2 h_a) rfl rfl rfl rfl rfl rfl (c_X0_drawStaple (d := d + 3) (sb9_2_0 h_a) i0) (fun _ => trivial) (fun _ => rfl) (fun v2 => ?_)
  refine ev_callV (As := [xI v2.1]) (st := []) (fun v3 => [xI v3.1]) dX9_unstaple_26 mlX9_72 (kd9_45 h_a) rfl rfl rfl rfl rfl rfl (c_X1_settle (d := d + 2) (sb9_45_1 h_a) v2.1) (fun _ => trivial) (fun _ => rfl) (fun v3 => ?_)
  exact ev_ret (e_iret dX9_unstaple_29)
def f_X9_setLegs (a : Nat) (i0 : Int) (R : xN) : Option (Int × xN) :=
  (f_X1_keep (a + 45) (a + 1) R).bind (fun v1 =>
  (f_X0_changeLegs (a + 2) i0 v1).bind (fun v2 =>
  (f_X1_settle (a + 45) v2.1 v2.2).bind (fun v3 =>
  some (v3.1, v3.2))))
set_option maxRecDepth 20000 in
set_option maxHeartbeats 4000000 in
theorem c_X9_setLegs {l : Launch} {g : xG} {d : Nat} {A : xA} {R : xN} {a : Nat} (h_a : sh 9 A a) (i0 : Int) : Ev l g (d + 5) mX9_setLegs 0 [xR a, xI i0] [] A R (fun v : Int × xN => some (xI v.1)) (fun v => v.2) (f_X9_setLegs a i0 R) := by
  rw [f_X9_setLegs]
  refine ev_st (pc' := 8) (L' := [xR a, xI i0]) (st' := [xR (a + 1), xR (a + 45)]) (fun _ _ _ k => e_aload_n dX9_setLegs_0 rfl (i := 0) (x := a) rfl (e_getr dX9_setLegs_1 flX9_19 (kd9_0 h_a) rfl (rf9_0_1 h_a) (e_aload_n dX9_setLegs_4 rfl (i := 0) (x := a) rfl (e_getr dX9_setLegs_5 flX9_10 (kd9_0 h_a) rfl (rf9_0_0 h_a) k)))) ?_
  refine ev_callV (As := [xR (a + 1)]) (st := []) (fun v1 => []) dX9_setLegs_8 mlX9_58 (kd9_45 h_a) rfl rfl rfl rfl rfl rfl (c_X1_keep (d := d) (sb9_45_1 h_a) (sb9_1_8 h_a)) (fun _ => trivial) (fun _ => rfl) (fun v1 => ?_)
  refine ev_st (pc' := 23) (L' := [xR a, xI i0]) (st' := [xI i0, xR (a + 2), xR (a + 45)]) (fun _ _ _ k => e_aload_n dX9_setLegs_11 rfl (i := 0) (x := a) rfl (e_getr dX9_setLegs_12 flX9_19 (kd9_0 h_a) rfl (rf9_0_1 h_a) (e_aload_n dX9_setLegs_15 rfl (i := 0) (x := a) rfl (e_getr dX9_setLegs_16 flX9_10 (kd9_0 h_a) rfl (rf9_0_0 h_a) (e_getr dX9_setLegs_19 flX9_62 (kd9_1 h_a) rfl (rf9_1_0 h_a) (e_iload_n dX9_setLegs_22 rfl (i := 1) (x := i0) rfl k)))))) ?_
  refine ev_callV (As := [xI i0]) (st := [xR (a + 45)]) (fun v2 => [xI v2.1, xR (a + 45)]) dX9_setLegs_23 mlX9_103 (kd9_2 h_a) rfl rfl rfl rfl rfl rfl (c_X0_changeLegs (d := d + 3) (sb9_2_0 h_a) i0) (fun _ => trivial) (fun _ => rfl) (fun v2 => ?_)
  refine ev_callV (As := [xI v2.1]) (st := []) (fun v3 => [xI v3.1]) dX9_setLegs_26 mlX9_72 (kd9_45 h_a) rfl rfl rfl rfl rfl rfl (c_X1_settle (d := d + 2) (sb9_45_1 h_a) v2.1) (fun _ => trivial) (fun _ => rfl) (fun v3 => ?_)
  exact ev_ret (e_iret dX9_setLegs_29)
def f_X9_see (a : Nat) (i0 : Int) (i1 : Int) (i2 : Int) (R : xN) : Option (Int × xN) :=
  (f_X1_keep (a + 45) (a + 1) R).bind (fun v1 =>
  (f_X0_keepSight (a + 2) i0 i1 i2 v1).bind (fun v2 =>
  (f_X1_settle (a + 45) v2.1 v2.2).bind (fun v3 =>
  some (v3.1, v3.2))))
set_option maxRecDepth 20000 in
set_option maxHeartbeats 4000000 in
theorem c_X9_see {l : Launch} {g : xG} {d : Nat} {A : xA} {R : xN} {a : Nat} (h_a : sh 9 A a) (i0 : Int) (i1 : Int) (i2 : Int) : Ev l g (d + 5) mX9_see 0 [xR a, xI i0, xI i1, xI i2] [] A R (fun v : Int × xN => some (xI v.1)) (fun v => v.2) (f_X9_see a i0 i1 i2 R) := by
  rw [f_X9_see]
  refine ev_st (pc' := 8) (L' := [xR a, xI i0, xI i1, xI i2]) (st' := [xR (a + 1), xR (a + 45)]) (fun _ _ _ k => e_aload_n dX9_see_0 rfl (i := 0) (x := a) rfl (e_getr dX9_see_1 flX9_19 (kd9_0 h_a) rfl (rf9_0_1 h_a) (e_aload_n dX9_see_4 rfl (i := 0) (x := a) rfl (e_getr dX9_see_5 flX9_10 (kd9_0 h_a) rfl (rf9_0_0 h_a) k)))) ?_
  refine ev_callV (As := [xR (a + 1)]) (st := []) (fun v1 => []) dX9_see_8 mlX9_58 (kd9_45 h_a) rfl rfl rfl rfl rfl rfl (c_X1_keep (d := d) (sb9_45_1 h_a) (sb9_1_8 h_a)) (fun _ => trivial) (fun _ => rfl) (fun v1 => ?_)
  refine ev_st (pc' := 25) (L' := [xR a, xI i0, xI i1, xI i2]) (st' := [xI i2, xI i1, xI i0, xR (a + 2), xR (a + 45)]) (fun _ _ _ k => e_aload_n dX9_see_11 rfl (i := 0) (x := a) rfl (e_getr dX9_see_12 flX9_19 (kd9_0 h_a) rfl (rf9_0_1 h_a) (e_aload_n dX9_see_15 rfl (i := 0) (x := a) rfl (e_getr dX9_see_16 flX9_10 (kd9_0 h_a) rfl (rf9_0_0 h_a) (e_getr dX9_see_19 flX9_62 (kd9_1 h_a) rfl (rf9_1_0 h_a) (e_iload_n dX9_see_22 rfl (i := 1) (x := i0) rfl (e_iload_n dX9_see_23 rfl (i := 2) (x := i1) rfl (e_iload_n dX9_see_24 rfl (i := 3) (x := i2) rfl k)))))))) ?_
  refine ev_callV (As := [xI i0, xI i1, xI i2]) (st := [xR (a + 45)]) (fun v2 => [xI v2.1, xR (a + 45)]) dX9_see_25 mlX9_106 (kd9_2 h_a) rfl rfl rfl rfl rfl rfl (c_X0_keepSight (d := d + 2) (sb9_2_0 h_a) i0 i1 i2) (fun _ => trivial) (fun _ => rfl) (fun v2 => ?_)
  refine ev_callV (As := [xI v2.1]) (st := []) (fun v3 => [xI v3.1]) dX9_see_28 mlX9_72 (kd9_45 h_a) rfl rfl rfl rfl rfl rfl (c_X1_settle (d := d + 2) (sb9_45_1 h_a) v2.1) (fun _ => trivial) (fun _ => rfl) (fun v3 => ?_)
  exact ev_ret (e_iret dX9_see_31)
def f_X9_forget (a : Nat) (R : xN) : Option (Int × xN) :=
  (f_X1_keep (a + 45) (a + 1) R).bind (fun v1 =>
  (f_X7_dropAll (a + 9) v1).bind (fun v2 =>
  (f_X1_settle (a + 45) v2.1 v2.2).bind (fun v3 =>
  some (v3.1, v3.2))))
set_option maxRecDepth 20000 in
set_option maxHeartbeats 4000000 in
theorem c_X9_forget {l : Launch} {g : xG} {d : Nat} {A : xA} {R : xN} {a : Nat} (h_a : sh 9 A a)  : Ev l g (d + 5) mX9_forget 0 [xR a] [] A R (fun v : Int × xN => some (xI v.1)) (fun v => v.2) (f_X9_forget a R) := by
  rw [f_X9_forget]
  refine ev_st (pc' := 8) (L' := [xR a]) (st' := [xR (a + 1), xR (a + 45)]) (fun _ _ _ k => e_aload_n dX9_forget_0 rfl (i := 0) (x := a) rfl (e_getr dX9_forget_1 flX9_19 (kd9_0 h_a) rfl (rf9_0_1 h_a) (e_aload_n dX9_forget_4 rfl (i := 0) (x := a) rfl (e_getr dX9_forget_5 flX9_10 (kd9_0 h_a) rfl (rf9_0_0 h_a) k)))) ?_
  refine ev_callV (As := [xR (a + 1)]) (st := []) (fun v1 => []) dX9_forget_8 mlX9_58 (kd9_45 h_a) rfl rfl rfl rfl rfl rfl (c_X1_keep (d := d) (sb9_45_1 h_a) (sb9_1_8 h_a)) (fun _ => trivial) (fun _ => rfl) (fun v1 => ?_)
  refine ev_st (pc' := 25) (L' := [xR a]) (st' := [xR (a + 9), xR (a + 45)]) (fun _ _ _ k => e_aload_n dX9_forget_11 rfl (i := 0) (x := a) rfl (e_getr dX9_forget_12 flX9_19 (kd9_0 h_a) rfl (rf9_0_1 h_a) (e_aload_n dX9_forget_15 rfl (i := 0) (x := a) rfl (e_getr dX9_forget_16 flX9_10 (kd9_0 h_a) rfl (rf9_0_0 h_a) (e_getr dX9_forget_19 flX9_62 (kd9_1 h_a) rfl (rf9_1_0 h_a) (e_getr dX9_forget_22 flX9_110 (kd9_2 h_a) rfl (rf9_2_2 h_a) k)))))) ?_
  refine ev_callV (As := []) (st := [xR (a + 45)]) (fun v2 => [xI v2.1, xR (a + 45)]) dX9_forget_25 mlX9_114 (kd9_9 h_a) rfl rfl rfl rfl rfl rfl (c_X7_dropAll (d := d + 4) (sb9_9_7 h_a)) (fun _ => trivial) (fun _ => rfl) (fun v2 => ?_)
  refine ev_callV (As := [xI v2.1]) (st := []) (fun v3 => [xI v3.1]) dX9_forget_28 mlX9_72 (kd9_45 h_a) rfl rfl rfl rfl rfl rfl (c_X1_settle (d := d + 2) (sb9_45_1 h_a) v2.1) (fun _ => trivial) (fun _ => rfl) (fun v3 => ?_)
  exact ev_ret (e_iret dX9_forget_31)
def f_X9_take (a : Nat) (i0 : Int) (R : xN) : Option (Int × xN) :=
  (f_X1_keep (a + 45) (a + 1) R).bind (fun v1 =>
  (f_X8_fillSlot (a + 1) i0 v1).bind (fun v2 =>
  (f_X1_settle (a + 45) v2.1 v2.2).bind (fun v3 =>
  some (v3.1, v3.2))))
set_option maxRecDepth 20000 in
set_option maxHeartbeats 4000000 in
theorem c_X9_take {l : Launch} {g : xG} {d : Nat} {A : xA} {R : xN} {a : Nat} (h_a : sh 9 A a) (i0 : Int) : Ev l g (d + 5) mX9_take 0 [xR a, xI i0] [] A R (fun v : Int × xN => some (xI v.1)) (fun v => v.2) (f_X9_take a i0 R) := by
  rw [f_X9_take]
  refine ev_st (pc' := 8) (L' := [xR a, xI i0]) (st' := [xR (a + 1), xR (a + 45)]) (fun _ _ _ k => e_aload_n dX9_take_0 rfl (i := 0) (x := a) rfl (e_getr dX9_take_1 flX9_19 (kd9_0 h_a) rfl (rf9_0_1 h_a) (e_aload_n dX9_take_4 rfl (i := 0) (x := a) rfl (e_getr dX9_take_5 flX9_10 (kd9_0 h_a) rfl (rf9_0_0 h_a) k)))) ?_
  refine ev_callV (As := [xR (a + 1)]) (st := []) (fun v1 => []) dX9_take_8 mlX9_58 (kd9_45 h_a) rfl rfl rfl rfl rfl rfl (c_X1_keep (d := d) (sb9_45_1 h_a) (sb9_1_8 h_a)) (fun _ => trivial) (fun _ => rfl) (fun v1 => ?_)
  refine ev_st (pc' := 20) (L' := [xR a, xI i0]) (st' := [xI i0, xR (a + 1), xR (a + 45)]) (fun _ _ _ k => e_aload_n dX9_take_11 rfl (i := 0) (x := a) rfl (e_getr dX9_take_12 flX9_19 (kd9_0 h_a) rfl (rf9_0_1 h_a) (e_aload_n dX9_take_15 rfl (i := 0) (x := a) rfl (e_getr dX9_take_16 flX9_10 (kd9_0 h_a) rfl (rf9_0_0 h_a) (e_iload_n dX9_take_19 rfl (i := 1) (x := i0) rfl k))))) ?_
  refine ev_callV (As := [xI i0]) (st := [xR (a + 45)]) (fun v2 => [xI v2.1, xR (a + 45)]) dX9_take_20 mlX9_135 (kd9_1 h_a) rfl rfl rfl rfl rfl rfl (c_X8_fillSlot (d := d + 1) (sb9_1_8 h_a) i0) (fun _ => trivial) (fun _ => rfl) (fun v2 => ?_)
  refine ev_callV (As := [xI v2.1]) (st := []) (fun v3 => [xI v3.1]) dX9_take_23 mlX9_72 (kd9_45 h_a) rfl rfl rfl rfl rfl rfl (c_X1_settle (d := d + 2) (sb9_45_1 h_a) v2.1) (fun _ => trivial) (fun _ => rfl) (fun v3 => ?_)
  exact ev_ret (e_iret dX9_take_26)
def f_X9_restore (a : Nat) (i0 : Int) (R : xN) : Option (Int × xN) :=
  (f_X1_keep (a + 45) (a + 1) R).bind (fun v1 =>
  (f_X8_useSlot (a + 1) i0 v1).bind (fun v2 =>
  (f_X1_settle (a + 45) v2.1 v2.2).bind (fun v3 =>
  some (v3.1, v3.2))))
set_option maxRecDepth 20000 in
set_option maxHeartbeats 4000000 in
theorem c_X9_restore {l : Launch} {g : xG} {d : Nat} {A : xA} {R : xN} {a : Nat} (h_a : sh 9 A a) (i0 : Int) : Ev l g (d + 5) mX9_restore 0 [xR a, xI i0] [] A R (fun v : Int × xN => some (xI v.1)) (fun v => v.2) (f_X9_restore a i0 R) := by
  rw [f_X9_restore]
  refine ev_st (pc' := 8) (L' := [xR a, xI i0]) (st' := [xR (a + 1), xR (a + 45)]) (fun _ _ _ k => e_aload_n dX9_restore_0 rfl (i := 0) (x := a) rfl (e_getr dX9_restore_1 flX9_19 (kd9_0 h_a) rfl (rf9_0_1 h_a) (e_aload_n dX9_restore_4 rfl (i := 0) (x := a) rfl (e_getr dX9_restore_5 flX9_10 (kd9_0 h_a) rfl (rf9_0_0 h_a) k)))) ?_
  refine ev_callV (As := [xR (a + 1)]) (st := []) (fun v1 => []) dX9_restore_8 mlX9_58 (kd9_45 h_a) rfl rfl rfl rfl rfl rfl (c_X1_keep (d := d) (sb9_45_1 h_a) (sb9_1_8 h_a)) (fun _ => trivial) (fun _ => rfl) (fun v1 => ?_)
  refine ev_st (pc' := 20) (L' := [xR a, xI i0]) (st' := [xI i0, xR (a + 1), xR (a + 45)]) (fun _ _ _ k => e_aload_n dX9_restore_11 rfl (i := 0) (x := a) rfl (e_getr dX9_restore_12 flX9_19 (kd9_0 h_a) rfl (rf9_0_1 h_a) (e_aload_n dX9_restore_15 rfl (i := 0) (x := a) rfl (e_getr dX9_restore_16 flX9_10 (kd9_0 h_a) rfl (rf9_0_0 h_a) (e_iload_n dX9_restore_19 rfl (i := 1) (x := i0) rfl k))))) ?_
  refine ev_callV (As := [xI i0]) (st := [xR (a + 45)]) (fun v2 => [xI v2.1, xR (a + 45)]) dX9_restore_20 mlX9_138 (kd9_1 h_a) rfl rfl rfl rfl rfl rfl (c_X8_useSlot (d := d + 1) (sb9_1_8 h_a) i0) (fun _ => trivial) (fun _ => rfl) (fun v2 => ?_)
  refine ev_callV (As := [xI v2.1]) (st := []) (fun v3 => [xI v3.1]) dX9_restore_23 mlX9_72 (kd9_45 h_a) rfl rfl rfl rfl rfl rfl (c_X1_settle (d := d + 2) (sb9_45_1 h_a) v2.1) (fun _ => trivial) (fun _ => rfl) (fun v3 => ?_)
  exact ev_ret (e_iret dX9_restore_26)
def f_X9_undo (a : Nat) (R : xN) : Option (Int × xN) :=
  (f_X1_goBack (a + 45) (a + 1) R).bind (fun v1 =>
  some (v1.1, v1.2))
set_option maxRecDepth 20000 in
set_option maxHeartbeats 4000000 in
theorem c_X9_undo {l : Launch} {g : xG} {d : Nat} {A : xA} {R : xN} {a : Nat} (h_a : sh 9 A a)  : Ev l g (d + 6) mX9_undo 0 [xR a] [] A R (fun v : Int × xN => some (xI v.1)) (fun v => v.2) (f_X9_undo a R) := by
  rw [f_X9_undo]
  refine ev_st (pc' := 8) (L' := [xR a]) (st' := [xR (a + 1), xR (a + 45)]) (fun _ _ _ k => e_aload_n dX9_undo_0 rfl (i := 0) (x := a) rfl (e_getr dX9_undo_1 flX9_19 (kd9_0 h_a) rfl (rf9_0_1 h_a) (e_aload_n dX9_undo_4 rfl (i := 0) (x := a) rfl (e_getr dX9_undo_5 flX9_10 (kd9_0 h_a) rfl (rf9_0_0 h_a) k)))) ?_
  refine ev_callV (As := [xR (a + 1)]) (st := []) (fun v1 => [xI v1.1]) dX9_undo_8 mlX9_141 (kd9_45 h_a) rfl rfl rfl rfl rfl rfl (c_X1_goBack (d := d) (sb9_45_1 h_a) (sb9_1_8 h_a)) (fun _ => trivial) (fun _ => rfl) (fun v1 => ?_)
  exact ev_ret (e_iret dX9_undo_11)
def f_X9_count (a : Nat) (i0 : Int) (R : xN) : Option (Int) :=
  if i0 = 0 then
  some (R (a + 3) 0)
  else
  if i0 = 1 then
  some (R (a + 3) 1)
  else
  if i0 = 2 then
  some (R (a + 6) 5)
  else
  if i0 = 3 then
  (f_X3_depth (a + 6) R).bind (fun v5 =>
  some v5)
  else
  if i0 = 4 then
  some (R (a + 6) 4)
  else
  if i0 = 5 then
  (f_X3_isBooklet (a + 6) R).bind (fun v8 =>
  (f_X9_asNumber v8 R).bind (fun v9 =>
  some v9))
  else
  if i0 = 6 then
  some (R (a + 2) 6)
  else
  if i0 = 7 then
  (f_J6_bitCount_0f7a4 (R (a + 2) 7) R).bind (fun v12 =>
  some v12)
  else
  if i0 = 8 then
  some (R (a + 9) 3)
  else
  if i0 = 9 then
  some (R (a + 13) 1)
  else
  if i0 = 10 then
  (f_J6_bitCount_0f7a4 (R (a + 1) 2) R).bind (fun v16 =>
  some v16)
  else
  if i0 = 11 then
  some (R (a + 45) 1)
  else
  if i0 = 12 then
  some (R a 5)
  else
  if i0 = 13 then
  some (R (a + 2) 9)
  else
  if i0 = 14 then
  some (R (a + 2) 8)
  else
  if i0 = 15 then
  some (R (a + 2) 5)
  else
  some (-1)
set_option maxRecDepth 20000 in
set_option maxHeartbeats 4000000 in
theorem c_X9_count {l : Launch} {g : xG} {d : Nat} {A : xA} {R : xN} {a : Nat} (h_a : sh 9 A a) (i0 : Int) : Ev l g (d + 1) mX9_count 0 [xR a, xI i0, xU] [] A R (fun v : Int => some (xI v)) (fun _ => R) (f_X9_count a i0 R) := by
  rw [f_X9_count]
  refine ev_st (pc' := 9) (L' := [xR a, xI i0, xR (a + 2)]) (st' := [xI i0]) (fun _ _ _ k => e_aload_n dX9_count_0 rfl (i := 0) (x := a) rfl (e_getr dX9_count_1 flX9_10 (kd9_0 h_a) rfl (rf9_0_0 h_a) (e_getr dX9_count_4 flX9_62 (kd9_1 h_a) rfl (rf9_1_0 h_a) (e_astore_n dX9_count_7 rfl (i := 2) rfl (L' := [xR a, xI i0, xR (a + 2)]) rfl (e_iload_n dX9_count_8 rfl (i := 1) (x := i0) rfl k))))) ?_
  refine ev_ite (P := i0 = 0) (fun h1 => ?_) (fun h1 => ?_)
  · refine ev_st (pc' := 88) (L' := [xR a, xI i0, xR (a + 2)]) (st' := []) (fun _ _ _ k => e_tin dX9_count_9 (tgt := 88) (off := 79) (by omega) (by omega) (by rw [h1]; rfl) rfl k) ?_
    exact ev_ret (e_aload_n dX9_count_88 rfl (i := 2) (x := (a + 2)) rfl (e_getr dX9_count_89 flX9_253 (kd9_2 h_a) rfl (rf9_2_0 h_a) (e_geti dX9_count_92 flX9_257 (kd9_3 h_a) (Or.inl rfl) (e_iret dX9_count_95))))
  refine ev_ite (P := i0 = 1) (fun h2 => ?_) (fun h2 => ?_)
  · refine ev_st (pc' := 96) (L' := [xR a, xI i0, xR (a + 2)]) (st' := []) (fun _ _ _ k => e_tin dX9_count_9 (tgt := 96) (off := 87) (by omega) (by omega) (by rw [h2]; rfl) rfl k) ?_
    exact ev_ret (e_aload_n dX9_count_96 rfl (i := 2) (x := (a + 2)) rfl (e_getr dX9_count_97 flX9_253 (kd9_2 h_a) rfl (rf9_2_0 h_a) (e_geti dX9_count_100 flX9_262 (kd9_3 h_a) (Or.inl rfl) (e_iret dX9_count_103))))
  refine ev_ite (P := i0 = 2) (fun h3 => ?_) (fun h3 => ?_)
  · refine ev_st (pc' := 104) (L' := [xR a, xI i0, xR (a + 2)]) (st' := []) (fun _ _ _ k => e_tin dX9_count_9 (tgt := 104) (off := 95) (by omega) (by omega) (by rw [h3]; rfl) rfl k) ?_
    exact ev_ret (e_aload_n dX9_count_104 rfl (i := 2) (x := (a + 2)) rfl (e_getr dX9_count_105 flX9_265 (kd9_2 h_a) rfl (rf9_2_1 h_a) (e_geti dX9_count_108 flX9_268 (kd9_6 h_a) (Or.inl rfl) (e_iret dX9_count_111))))
  refine ev_ite (P := i0 = 3) (fun h4 => ?_) (fun h4 => ?_)
  · refine ev_st (pc' := 112) (L' := [xR a, xI i0, xR (a + 2)]) (st' := []) (fun _ _ _ k => e_tin dX9_count_9 (tgt := 112) (off := 103) (by omega) (by omega) (by rw [h4]; rfl) rfl k) ?_
    refine ev_st (pc' := 116) (L' := [xR a, xI i0, xR (a + 2)]) (st' := [xR (a + 6)]) (fun _ _ _ k => e_aload_n dX9_count_112 rfl (i := 2) (x := (a + 2)) rfl (e_getr dX9_count_113 flX9_265 (kd9_2 h_a) rfl (rf9_2_1 h_a) k)) ?_
    refine ev_callV (As := []) (st := []) (fun v5 => [xI v5]) dX9_count_116 mlX9_271 (kd9_6 h_a) rfl rfl rfl rfl rfl rfl (c_X3_depth (d := d) (sb9_6_3 h_a)) (fun _ => trivial) (fun _ => rfl) (fun v5 => ?_)
    exact ev_ret (e_iret dX9_count_119)
  refine ev_ite (P := i0 = 4) (fun h6 => ?_) (fun h6 => ?_)
  · refine ev_st (pc' := 120) (L' := [xR a, xI i0, xR (a + 2)]) (st' := []) (fun _ _ _ k => e_tin dX9_count_9 (tgt := 120) (off := 111) (by omega) (by omega) (by rw [h6]; rfl) rfl k) ?_
    exact ev_ret (e_aload_n dX9_count_120 rfl (i := 2) (x := (a + 2)) rfl (e_getr dX9_count_121 flX9_265 (kd9_2 h_a) rfl (rf9_2_1 h_a) (e_geti dX9_count_124 flX9_274 (kd9_6 h_a) (Or.inl rfl) (e_iret dX9_count_127))))
  refine ev_ite (P := i0 = 5) (fun h7 => ?_) (fun h7 => ?_)
  · refine ev_st (pc' := 128) (L' := [xR a, xI i0, xR (a + 2)]) (st' := []) (fun _ _ _ k => e_tin dX9_count_9 (tgt := 128) (off := 119) (by omega) (by omega) (by rw [h7]; rfl) rfl k) ?_
    refine ev_st (pc' := 132) (L' := [xR a, xI i0, xR (a + 2)]) (st' := [xR (a + 6)]) (fun _ _ _ k => e_aload_n dX9_count_128 rfl (i := 2) (x := (a + 2)) rfl (e_getr dX9_count_129 flX9_265 (kd9_2 h_a) rfl (rf9_2_1 h_a) k)) ?_
    refine ev_callV (As := []) (st := []) (fun v8 => [xI (xz v8)]) dX9_count_132 mlX9_277 (kd9_6 h_a) rfl rfl rfl rfl rfl rfl (c_X3_isBooklet (d := d) (sb9_6_3 h_a)) (fun _ => xz01 _) (fun _ => rfl) (fun v8 => ?_)
    refine ev_callS (As := [xI (xz v8)]) (st := []) (fun v9 => [xI v9]) dX9_count_135 mlX9_280 rfl rfl rfl rfl rfl rfl (c_X9_asNumber (d := d) v8) (fun _ => trivial) (fun _ => rfl) (fun v9 => ?_)
    exact ev_ret (e_iret dX9_count_138)
  refine ev_ite (P := i0 = 6) (fun h10 => ?_) (fun h10 => ?_)
  · refine ev_st (pc' := 139) (L' := [xR a, xI i0, xR (a + 2)]) (st' := []) (fun _ _ _ k => e_tin dX9_count_9 (tgt := 139) (off := 130) (by omega) (by omega) (by rw [h10]; rfl) rfl k) ?_
    exact ev_ret (e_aload_n dX9_count_139 rfl (i := 2) (x := (a + 2)) rfl (e_geti dX9_count_140 flX9_284 (kd9_2 h_a) (Or.inl rfl) (e_iret dX9_count_143)))
  refine ev_ite (P := i0 = 7) (fun h11 => ?_) (fun h11 => ?_)
  · refine ev_st (pc' := 144) (L' := [xR a, xI i0, xR (a + 2)]) (st' := []) (fun _ _ _ k => e_tin dX9_count_9 (tgt := 144) (off := 135) (by omega) (by omega) (by rw [h11]; rfl) rfl k) ?_
    refine ev_st (pc' := 148) (L' := [xR a, xI i0, xR (a + 2)]) (st' := [xI (R (a + 2) 7)]) (fun _ _ _ k => e_aload_n dX9_count_144 rfl (i := 2) (x := (a + 2)) rfl (e_geti dX9_count_145 flX9_287 (kd9_2 h_a) (Or.inl rfl) k)) ?_
    refine ev_callS (As := [xI (R (a + 2) 7)]) (st := []) (fun v12 => [xI v12]) dX9_count_148 mlX9_290 rfl rfl rfl rfl rfl rfl (c_J6_bitCount_0f7a4 (d := d) (R (a + 2) 7)) (fun _ => trivial) (fun _ => rfl) (fun v12 => ?_)
    exact ev_ret (e_iret dX9_count_151)
  refine ev_ite (P := i0 = 8) (fun h13 => ?_) (fun h13 => ?_)
  · refine ev_st (pc' := 152) (L' := [xR a, xI i0, xR (a + 2)]) (st' := []) (fun _ _ _ k => e_tin dX9_count_9 (tgt := 152) (off := 143) (by omega) (by omega) (by rw [h13]; rfl) rfl k) ?_
    exact ev_ret (e_aload_n dX9_count_152 rfl (i := 2) (x := (a + 2)) rfl (e_getr dX9_count_153 flX9_110 (kd9_2 h_a) rfl (rf9_2_2 h_a) (e_geti dX9_count_156 flX9_295 (kd9_9 h_a) (Or.inl rfl) (e_iret dX9_count_159))))
  refine ev_ite (P := i0 = 9) (fun h14 => ?_) (fun h14 => ?_)
  · refine ev_st (pc' := 160) (L' := [xR a, xI i0, xR (a + 2)]) (st' := []) (fun _ _ _ k => e_tin dX9_count_9 (tgt := 160) (off := 151) (by omega) (by omega) (by rw [h14]; rfl) rfl k) ?_
    exact ev_ret (e_aload_n dX9_count_160 rfl (i := 2) (x := (a + 2)) rfl (e_getr dX9_count_161 flX9_119 (kd9_2 h_a) rfl (rf9_2_3 h_a) (e_geti dX9_count_164 flX9_298 (kd9_13 h_a) (Or.inl rfl) (e_iret dX9_count_167))))
  refine ev_ite (P := i0 = 10) (fun h15 => ?_) (fun h15 => ?_)
  · refine ev_st (pc' := 168) (L' := [xR a, xI i0, xR (a + 2)]) (st' := []) (fun _ _ _ k => e_tin dX9_count_9 (tgt := 168) (off := 159) (by omega) (by omega) (by rw [h15]; rfl) rfl k) ?_
    refine ev_st (pc' := 175) (L' := [xR a, xI i0, xR (a + 2)]) (st' := [xI (R (a + 1) 2)]) (fun _ _ _ k => e_aload_n dX9_count_168 rfl (i := 0) (x := a) rfl (e_getr dX9_count_169 flX9_10 (kd9_0 h_a) rfl (rf9_0_0 h_a) (e_geti dX9_count_172 flX9_299 (kd9_1 h_a) (Or.inl rfl) k))) ?_
    refine ev_callS (As := [xI (R (a + 1) 2)]) (st := []) (fun v16 => [xI v16]) dX9_count_175 mlX9_290 rfl rfl rfl rfl rfl rfl (c_J6_bitCount_0f7a4 (d := d) (R (a + 1) 2)) (fun _ => trivial) (fun _ => rfl) (fun v16 => ?_)
    exact ev_ret (e_iret dX9_count_178)
  refine ev_ite (P := i0 = 11) (fun h17 => ?_) (fun h17 => ?_)
  · refine ev_st (pc' := 179) (L' := [xR a, xI i0, xR (a + 2)]) (st' := []) (fun _ _ _ k => e_tin dX9_count_9 (tgt := 179) (off := 170) (by omega) (by omega) (by rw [h17]; rfl) rfl k) ?_
    exact ev_ret (e_aload_n dX9_count_179 rfl (i := 0) (x := a) rfl (e_getr dX9_count_180 flX9_19 (kd9_0 h_a) rfl (rf9_0_1 h_a) (e_geti dX9_count_183 flX9_302 (kd9_45 h_a) (Or.inl rfl) (e_iret dX9_count_186))))
  refine ev_ite (P := i0 = 12) (fun h18 => ?_) (fun h18 => ?_)
  · refine ev_st (pc' := 187) (L' := [xR a, xI i0, xR (a + 2)]) (st' := []) (fun _ _ _ k => e_tin dX9_count_9 (tgt := 187) (off := 178) (by omega) (by omega) (by rw [h18]; rfl) rfl k) ?_
    exact ev_ret (e_aload_n dX9_count_187 rfl (i := 0) (x := a) rfl (e_geti dX9_count_188 flX9_41 (kd9_0 h_a) (Or.inl rfl) (e_iret dX9_count_191)))
  refine ev_ite (P := i0 = 13) (fun h19 => ?_) (fun h19 => ?_)
  · refine ev_st (pc' := 192) (L' := [xR a, xI i0, xR (a + 2)]) (st' := []) (fun _ _ _ k => e_tin dX9_count_9 (tgt := 192) (off := 183) (by omega) (by omega) (by rw [h19]; rfl) rfl k) ?_
    exact ev_ret (e_aload_n dX9_count_192 rfl (i := 2) (x := (a + 2)) rfl (e_geti dX9_count_193 flX9_303 (kd9_2 h_a) (Or.inl rfl) (e_iret dX9_count_196)))
  refine ev_ite (P := i0 = 14) (fun h20 => ?_) (fun h20 => ?_)
  · refine ev_st (pc' := 197) (L' := [xR a, xI i0, xR (a + 2)]) (st' := []) (fun _ _ _ k => e_tin dX9_count_9 (tgt := 197) (off := 188) (by omega) (by omega) (by rw [h20]; rfl) rfl k) ?_
    exact ev_ret (e_aload_n dX9_count_197 rfl (i := 2) (x := (a + 2)) rfl (e_geti dX9_count_198 flX9_305 (kd9_2 h_a) (Or.inl rfl) (e_iret dX9_count_201)))
  refine ev_ite (P := i0 = 15) (fun h21 => ?_) (fun h21 => ?_)
  · refine ev_st (pc' := 202) (L' := [xR a, xI i0, xR (a + 2)]) (st' := []) (fun _ _ _ k => e_tin dX9_count_9 (tgt := 202) (off := 193) (by omega) (by omega) (by rw [h21]; rfl) rfl k) ?_
    exact ev_ret (e_aload_n dX9_count_202 rfl (i := 2) (x := (a + 2)) rfl (e_geti dX9_count_203 flX9_308 (kd9_2 h_a) (Or.inl rfl) (e_iret dX9_count_206)))
  refine ev_st (pc' := 207) (L' := [xR a, xI i0, xR (a + 2)]) (st' := []) (fun _ _ _ k => e_tout dX9_count_9 (tgt := 207) (by omega) rfl k) ?_
  exact ev_ret (e_iconst dX9_count_207 (k4 rfl) (e_iret dX9_count_208))
def f_X9_side (a : Nat) (i0 : Int) (i1 : Int) (i2 : Int) (i3 : Int) (R : xN) : Option (Int) :=
  (f_X5_hasSide (a + 3) i0 i1 i2 R).bind (fun v1 =>
  if v1 = true then
  (f_X9_isIn i3 0 1 R).bind (fun v3 =>
  if v3 = true then
  (f_X9_cellAt i0 i1 R).bind (fun v5 =>
  (f_X9_placeOfSide v5 i2 R).bind (fun v6 =>
  if i3 = 0 then
  (f_X5_numberAt (a + 3) v6 R).bind (fun v8 =>
  some v8)
  else
  (f_X5_turnAt (a + 3) v6 R).bind (fun v9 =>
  some v9)))
  else
  some (-1))
  else
  some (-1))
set_option maxRecDepth 20000 in
set_option maxHeartbeats 4000000 in
theorem c_X9_side {l : Launch} {g : xG} {d : Nat} {A : xA} {R : xN} {a : Nat} (h_a : sh 9 A a) (i0 : Int) (i1 : Int) (i2 : Int) (i3 : Int) : Ev l g (d + 2) mX9_side 0 [xR a, xI i0, xI i1, xI i2, xI i3, xU, xU] [] A R (fun v : Int => some (xI v)) (fun _ => R) (f_X9_side a i0 i1 i2 i3 R) := by
  rw [f_X9_side]
  refine ev_st (pc' := 17) (L' := [xR a, xI i0, xI i1, xI i2, xI i3, xR (a + 3), xU]) (st' := [xI i2, xI i1, xI i0, xR (a + 3)]) (fun _ _ _ k => e_aload_n dX9_side_0 rfl (i := 0) (x := a) rfl (e_getr dX9_side_1 flX9_10 (kd9_0 h_a) rfl (rf9_0_0 h_a) (e_getr dX9_side_4 flX9_62 (kd9_1 h_a) rfl (rf9_1_0 h_a) (e_getr dX9_side_7 flX9_253 (kd9_2 h_a) rfl (rf9_2_0 h_a) (e_astore dX9_side_10 (i := 5) rfl (L' := [xR a, xI i0, xI i1, xI i2, xI i3, xR (a + 3), xU]) rfl (e_aload dX9_side_12 (i := 5) (x := (a + 3)) rfl (e_iload_n dX9_side_14 rfl (i := 1) (x := i0) rfl (e_iload_n dX9_side_15 rfl (i := 2) (x := i1) rfl (e_iload_n dX9_side_16 rfl (i := 3) (x := i2) rfl k))))))))) ?_
  refine ev_callV (As := [xI i0, xI i1, xI i2]) (st := []) (fun v1 => [xI (xz v1)]) dX9_side_17 mlX9_310 (kd9_3 h_a) rfl rfl rfl rfl rfl rfl (c_X5_hasSide (d := d) (sb9_3_5 h_a) i0 i1 i2) (fun _ => xz01 _) (fun _ => rfl) (fun v1 => ?_)
  refine ev_br2 (P := v1 = true) (pct := 23) (pcf := 33) (st' := []) (fun _ _ _ kt kf => e_ifeqz dX9_side_20 (tgt := 33) rfl kt kf) (fun h2 => ?_) (fun h2 => ?_)
  · refine ev_st (pc' := 27) (L' := [xR a, xI i0, xI i1, xI i2, xI i3, xR (a + 3), xU]) (st' := [xI 1, xI 0, xI i3]) (fun _ _ _ k => e_iload dX9_side_23 (i := 4) (x := i3) rfl (e_iconst dX9_side_25 (k4 rfl) (e_iconst dX9_side_26 (k4 rfl) k))) ?_
    refine ev_callS (As := [xI i3, xI 0, xI 1]) (st := []) (fun v3 => [xI (xz v3)]) dX9_side_27 mlX9_145 rfl rfl rfl rfl rfl rfl (c_X9_isIn (d := d + 1) i3 0 1) (fun _ => xz01 _) (fun _ => rfl) (fun v3 => ?_)
    refine ev_br2 (P := v3 = true) (pct := 35) (pcf := 33) (st' := []) (fun _ _ _ kt kf => e_ifnez dX9_side_30 (tgt := 35) rfl kt kf) (fun h4 => ?_) (fun h4 => ?_)
    · refine ev_st (pc' := 37) (L' := [xR a, xI i0, xI i1, xI i2, xI i3, xR (a + 3), xU]) (st' := [xI i1, xI i0]) (fun _ _ _ k => e_iload_n dX9_side_35 rfl (i := 1) (x := i0) rfl (e_iload_n dX9_side_36 rfl (i := 2) (x := i1) rfl k)) ?_
      refine ev_callS (As := [xI i0, xI i1]) (st := []) (fun v5 => [xI v5]) dX9_side_37 mlX9_313 rfl rfl rfl rfl rfl rfl (c_X9_cellAt (d := d + 1) i0 i1) (fun _ => trivial) (fun _ => rfl) (fun v5 => ?_)
      refine ev_st (pc' := 41) (L' := [xR a, xI i0, xI i1, xI i2, xI i3, xR (a + 3), xU]) (st' := [xI i2, xI v5]) (fun _ _ _ k => e_iload_n dX9_side_40 rfl (i := 3) (x := i2) rfl k) ?_
      refine ev_callS (As := [xI v5, xI i2]) (st := []) (fun v6 => [xI v6]) dX9_side_41 mlX9_316 rfl rfl rfl rfl rfl rfl (c_X9_placeOfSide (d := d + 1) v5 i2) (fun _ => trivial) (fun _ => rfl) (fun v6 => ?_)
      refine ev_st (pc' := 48) (L' := [xR a, xI i0, xI i1, xI i2, xI i3, xR (a + 3), xI v6]) (st' := [xI i3]) (fun _ _ _ k => e_istore dX9_side_44 (i := 6) rfl (L' := [xR a, xI i0, xI i1, xI i2, xI i3, xR (a + 3), xI v6]) rfl (e_iload dX9_side_46 (i := 4) (x := i3) rfl k)) ?_
      refine ev_br2 (P := i3 = 0) (pct := 51) (pcf := 61) (st' := []) (fun _ _ _ kt kf => e_ifne dX9_side_48 (tgt := 61) rfl kt kf) (fun h7 => ?_) (fun h7 => ?_)
      · refine ev_st (pc' := 55) (L' := [xR a, xI i0, xI i1, xI i2, xI i3, xR (a + 3), xI v6]) (st' := [xI v6, xR (a + 3)]) (fun _ _ _ k => e_aload dX9_side_51 (i := 5) (x := (a + 3)) rfl (e_iload dX9_side_53 (i := 6) (x := v6) rfl k)) ?_
        refine ev_callV (As := [xI v6]) (st := []) (fun v8 => [xI v8]) dX9_side_55 mlX9_319 (kd9_3 h_a) rfl rfl rfl rfl rfl rfl (c_X5_numberAt (d := d) (sb9_3_5 h_a) v6) (fun _ => trivial) (fun _ => rfl) (fun v8 => ?_)
        exact ev_ret (e_goto dX9_side_58 (tgt := 68) rfl (e_iret dX9_side_68))
      · refine ev_st (pc' := 65) (L' := [xR a, xI i0, xI i1, xI i2, xI i3, xR (a + 3), xI v6]) (st' := [xI v6, xR (a + 3)]) (fun _ _ _ k => e_aload dX9_side_61 (i := 5) (x := (a + 3)) rfl (e_iload dX9_side_63 (i := 6) (x := v6) rfl k)) ?_
        refine ev_callV (As := [xI v6]) (st := []) (fun v9 => [xI v9]) dX9_side_65 mlX9_322 (kd9_3 h_a) rfl rfl rfl rfl rfl rfl (c_X5_turnAt (d := d) (sb9_3_5 h_a) v6) (fun _ => trivial) (fun _ => rfl) (fun v9 => ?_)
        exact ev_ret (e_iret dX9_side_68)
    · exact ev_ret (e_iconst dX9_side_33 (k4 rfl) (e_iret dX9_side_34))
  · exact ev_ret (e_iconst dX9_side_33 (k4 rfl) (e_iret dX9_side_34))
def f_X9_uprightOn (a : Nat) (i1 : Int) (R : xN) : Option (Int) :=
  (f_X0_numberOn a (a + 4) i1 R).bind (fun v1 =>
  if v1 = (-9) then
  some (-9)
  else
  (f_X0_isUpright a (a + 4) i1 R).bind (fun v3 =>
  (f_X9_asNumber v3 R).bind (fun v4 =>
  some v4)))
set_option maxRecDepth 20000 in
set_option maxHeartbeats 4000000 in
theorem c_X9_uprightOn {l : Launch} {g : xG} {d : Nat} {A : xA} {R : xN} {a : Nat} (h_a : sh 0 A a) (i1 : Int) : Ev l g (d + 4) mX9_uprightOn 0 [xR a, xI i1] [] A R (fun v : Int => some (xI v)) (fun _ => R) (f_X9_uprightOn a i1 R) := by
  rw [f_X9_uprightOn]
  refine ev_st (pc' := 6) (L' := [xR a, xI i1]) (st' := [xI i1, xR (a + 4), xR a]) (fun _ _ _ k => e_aload_n dX9_uprightOn_0 rfl (i := 0) (x := a) rfl (e_aload_n dX9_uprightOn_1 rfl (i := 0) (x := a) rfl (e_getr dX9_uprightOn_2 flX9_265 (kd0_0 h_a) rfl (rf0_0_1 h_a) (e_iload_n dX9_uprightOn_5 rfl (i := 1) (x := i1) rfl k)))) ?_
  refine ev_callV (As := [xR (a + 4), xI i1]) (st := []) (fun v1 => [xI v1]) dX9_uprightOn_6 mlX9_349 (kd0_0 h_a) rfl rfl rfl rfl rfl rfl (c_X0_numberOn (d := d + 1) h_a (sb0_4_3 h_a) i1) (fun _ => trivial) (fun _ => rfl) (fun v1 => ?_)
  refine ev_st (pc' := 11) (L' := [xR a, xI i1]) (st' := [xI (-9), xI v1]) (fun _ _ _ k => e_bipush dX9_uprightOn_9 rfl (k4 rfl) k) ?_
  refine ev_br2 (P := v1 = (-9)) (pct := 14) (pcf := 17) (st' := []) (fun _ _ _ kt kf => e_cne dX9_uprightOn_11 (tgt := 17) rfl kt kf) (fun h2 => ?_) (fun h2 => ?_)
  · exact ev_ret (e_bipush dX9_uprightOn_14 rfl (k4 rfl) (e_iret dX9_uprightOn_16))
  · refine ev_st (pc' := 23) (L' := [xR a, xI i1]) (st' := [xI i1, xR (a + 4), xR a]) (fun _ _ _ k => e_aload_n dX9_uprightOn_17 rfl (i := 0) (x := a) rfl (e_aload_n dX9_uprightOn_18 rfl (i := 0) (x := a) rfl (e_getr dX9_uprightOn_19 flX9_265 (kd0_0 h_a) rfl (rf0_0_1 h_a) (e_iload_n dX9_uprightOn_22 rfl (i := 1) (x := i1) rfl k)))) ?_
    refine ev_callV (As := [xR (a + 4), xI i1]) (st := []) (fun v3 => [xI (xz v3)]) dX9_uprightOn_23 mlX9_370 (kd0_0 h_a) rfl rfl rfl rfl rfl rfl (c_X0_isUpright (d := d) h_a (sb0_4_3 h_a) i1) (fun _ => xz01 _) (fun _ => rfl) (fun v3 => ?_)
    refine ev_callS (As := [xI (xz v3)]) (st := []) (fun v4 => [xI v4]) dX9_uprightOn_26 mlX9_280 rfl rfl rfl rfl rfl rfl (c_X9_asNumber (d := d + 3) v3) (fun _ => trivial) (fun _ => rfl) (fun v4 => ?_)
    exact ev_ret (e_iret dX9_uprightOn_29)
def f_X9_page (a : Nat) (i0 : Int) (i1 : Int) (R : xN) : Option (Int × xN) :=
  (f_X3_isBooklet (a + 6) R).bind (fun v1 =>
  if v1 = true then
  (f_X3_lastPage (a + 6) R).bind (fun v3 =>
  (f_X9_isIn i0 0 v3 R).bind (fun v4 =>
  if v4 = true then
  if i1 = 0 then
  (f_X3_rowAt (a + 6) (w4 (Int.tdiv i0 2)) R).bind (fun v7 =>
  some (v7, R))
  else
  if i1 = 1 then
  (f_X3_columnAt (a + 6) (w4 (Int.tdiv i0 2)) R).bind (fun v9 =>
  some (v9, R))
  else
  if i1 = 2 then
  (f_X3_sideOfPage (a + 6) i0 R).bind (fun v11 =>
  some (v11, R))
  else
  if i1 = 3 then
  (f_X0_numberOn (a + 2) (a + 6) i0 R).bind (fun v13 =>
  some (v13, R))
  else
  if i1 = 4 then
  (f_X9_uprightOn (a + 2) i0 R).bind (fun v15 =>
  some (v15, R))
  else
  if i1 = 5 then
  (f_X0_isHidden (a + 2) i0 R).bind (fun v17 =>
  (f_X9_asNumber v17 R).bind (fun v18 =>
  some (v18, R)))
  else
  if i1 = 6 then
  (f_X0_whyNotRead (a + 2) i0 R).bind (fun v20 =>
  if v20 = 0 then
  (f_X9_asNumber true R).bind (fun v22 =>
  some (v22, R))
  else
  (f_X9_asNumber false R).bind (fun v23 =>
  some (v23, R)))
  else
  if i1 = 7 then
  (f_X2_arrange (a + 314) (a + 2) R).bind (fun v25 =>
  (f_X2_takenOn (a + 314) i0 (a + 13) v25).bind (fun v26 =>
  some (v26, v25)))
  else
  some ((-1), R)
  else
  some ((-1), R)))
  else
  some ((-2), R))
set_option maxRecDepth 20000 in
set_option maxHeartbeats 4000000 in
theorem c_X9_page {l : Launch} {g : xG} {d : Nat} {A : xA} {R : xN} {a : Nat} (h_a : sh 9 A a) (i0 : Int) (i1 : Int) : Ev l g (d + 6) mX9_page 0 [xR a, xI i0, xI i1, xU] [] A R (fun v : Int × xN => some (xI v.1)) (fun v => v.2) (f_X9_page a i0 i1 R) := by
  rw [f_X9_page]
  refine ev_st (pc' := 12) (L' := [xR a, xI i0, xI i1, xR (a + 2)]) (st' := [xR (a + 6)]) (fun _ _ _ k => e_aload_n dX9_page_0 rfl (i := 0) (x := a) rfl (e_getr dX9_page_1 flX9_10 (kd9_0 h_a) rfl (rf9_0_0 h_a) (e_getr dX9_page_4 flX9_62 (kd9_1 h_a) rfl (rf9_1_0 h_a) (e_astore_n dX9_page_7 rfl (i := 3) rfl (L' := [xR a, xI i0, xI i1, xR (a + 2)]) rfl (e_aload_n dX9_page_8 rfl (i := 3) (x := (a + 2)) rfl (e_getr dX9_page_9 flX9_265 (kd9_2 h_a) rfl (rf9_2_1 h_a) k)))))) ?_
  refine ev_callV (As := []) (st := []) (fun v1 => [xI (xz v1)]) dX9_page_12 mlX9_277 (kd9_6 h_a) rfl rfl rfl rfl rfl rfl (c_X3_isBooklet (d := d + 5) (sb9_6_3 h_a)) (fun _ => xz01 _) (fun _ => rfl) (fun v1 => ?_)
  refine ev_br2 (P := v1 = true) (pct := 21) (pcf := 18) (st' := []) (fun _ _ _ kt kf => e_ifnez dX9_page_15 (tgt := 21) rfl kt kf) (fun h2 => ?_) (fun h2 => ?_)
  · refine ev_st (pc' := 27) (L' := [xR a, xI i0, xI i1, xR (a + 2)]) (st' := [xR (a + 6), xI 0, xI i0]) (fun _ _ _ k => e_iload_n dX9_page_21 rfl (i := 1) (x := i0) rfl (e_iconst dX9_page_22 (k4 rfl) (e_aload_n dX9_page_23 rfl (i := 3) (x := (a + 2)) rfl (e_getr dX9_page_24 flX9_265 (kd9_2 h_a) rfl (rf9_2_1 h_a) k)))) ?_
    refine ev_callV (As := []) (st := [xI 0, xI i0]) (fun v3 => [xI v3, xI 0, xI i0]) dX9_page_27 mlX9_343 (kd9_6 h_a) rfl rfl rfl rfl rfl rfl (c_X3_lastPage (d := d + 4) (sb9_6_3 h_a)) (fun _ => trivial) (fun _ => rfl) (fun v3 => ?_)
    refine ev_callS (As := [xI i0, xI 0, xI v3]) (st := []) (fun v4 => [xI (xz v4)]) dX9_page_30 mlX9_145 rfl rfl rfl rfl rfl rfl (c_X9_isIn (d := d + 5) i0 0 v3) (fun _ => xz01 _) (fun _ => rfl) (fun v4 => ?_)
    refine ev_br2 (P := v4 = true) (pct := 38) (pcf := 36) (st' := []) (fun _ _ _ kt kf => e_ifnez dX9_page_33 (tgt := 38) rfl kt kf) (fun h5 => ?_) (fun h5 => ?_)
    · refine ev_st (pc' := 39) (L' := [xR a, xI i0, xI i1, xR (a + 2)]) (st' := [xI i1]) (fun _ _ _ k => e_iload_n dX9_page_38 rfl (i := 2) (x := i1) rfl k) ?_
      refine ev_ite (P := i1 = 0) (fun h6 => ?_) (fun h6 => ?_)
      · refine ev_st (pc' := 84) (L' := [xR a, xI i0, xI i1, xR (a + 2)]) (st' := []) (fun _ _ _ k => e_tin dX9_page_39 (tgt := 84) (off := 45) (by omega) (by omega) (by rw [h6]; rfl) rfl k) ?_
        refine ev_st (pc' := 91) (L' := [xR a, xI i0, xI i1, xR (a + 2)]) (st' := [xI (w4 (Int.tdiv i0 2)), xR (a + 6)]) (fun _ _ _ k => e_aload_n dX9_page_84 rfl (i := 3) (x := (a + 2)) rfl (e_getr dX9_page_85 flX9_265 (kd9_2 h_a) rfl (rf9_2_1 h_a) (e_iload_n dX9_page_88 rfl (i := 1) (x := i0) rfl (e_iconst dX9_page_89 (k4 rfl) (e_idiv dX9_page_90 (by decide) k))))) ?_
        refine ev_callV (As := [xI (w4 (Int.tdiv i0 2))]) (st := []) (fun v7 => [xI v7]) dX9_page_91 mlX9_328 (kd9_6 h_a) rfl rfl rfl rfl rfl rfl (c_X3_rowAt (d := d + 4) (sb9_6_3 h_a) (w4 (Int.tdiv i0 2))) (fun _ => trivial) (fun _ => rfl) (fun v7 => ?_)
        exact ev_ret (e_iret dX9_page_94)
      refine ev_ite (P := i1 = 1) (fun h8 => ?_) (fun h8 => ?_)
      · refine ev_st (pc' := 95) (L' := [xR a, xI i0, xI i1, xR (a + 2)]) (st' := []) (fun _ _ _ k => e_tin dX9_page_39 (tgt := 95) (off := 56) (by omega) (by omega) (by rw [h8]; rfl) rfl k) ?_
        refine ev_st (pc' := 102) (L' := [xR a, xI i0, xI i1, xR (a + 2)]) (st' := [xI (w4 (Int.tdiv i0 2)), xR (a + 6)]) (fun _ _ _ k => e_aload_n dX9_page_95 rfl (i := 3) (x := (a + 2)) rfl (e_getr dX9_page_96 flX9_265 (kd9_2 h_a) rfl (rf9_2_1 h_a) (e_iload_n dX9_page_99 rfl (i := 1) (x := i0) rfl (e_iconst dX9_page_100 (k4 rfl) (e_idiv dX9_page_101 (by decide) k))))) ?_
        refine ev_callV (As := [xI (w4 (Int.tdiv i0 2))]) (st := []) (fun v9 => [xI v9]) dX9_page_102 mlX9_331 (kd9_6 h_a) rfl rfl rfl rfl rfl rfl (c_X3_columnAt (d := d + 4) (sb9_6_3 h_a) (w4 (Int.tdiv i0 2))) (fun _ => trivial) (fun _ => rfl) (fun v9 => ?_)
        exact ev_ret (e_iret dX9_page_105)
      refine ev_ite (P := i1 = 2) (fun h10 => ?_) (fun h10 => ?_)
      · refine ev_st (pc' := 106) (L' := [xR a, xI i0, xI i1, xR (a + 2)]) (st' := []) (fun _ _ _ k => e_tin dX9_page_39 (tgt := 106) (off := 67) (by omega) (by omega) (by rw [h10]; rfl) rfl k) ?_
        refine ev_st (pc' := 111) (L' := [xR a, xI i0, xI i1, xR (a + 2)]) (st' := [xI i0, xR (a + 6)]) (fun _ _ _ k => e_aload_n dX9_page_106 rfl (i := 3) (x := (a + 2)) rfl (e_getr dX9_page_107 flX9_265 (kd9_2 h_a) rfl (rf9_2_1 h_a) (e_iload_n dX9_page_110 rfl (i := 1) (x := i0) rfl k))) ?_
        refine ev_callV (As := [xI i0]) (st := []) (fun v11 => [xI v11]) dX9_page_111 mlX9_346 (kd9_6 h_a) rfl rfl rfl rfl rfl rfl (c_X3_sideOfPage (d := d + 3) (sb9_6_3 h_a) i0) (fun _ => trivial) (fun _ => rfl) (fun v11 => ?_)
        exact ev_ret (e_iret dX9_page_114)
      refine ev_ite (P := i1 = 3) (fun h12 => ?_) (fun h12 => ?_)
      · refine ev_st (pc' := 115) (L' := [xR a, xI i0, xI i1, xR (a + 2)]) (st' := []) (fun _ _ _ k => e_tin dX9_page_39 (tgt := 115) (off := 76) (by omega) (by omega) (by rw [h12]; rfl) rfl k) ?_
        refine ev_st (pc' := 121) (L' := [xR a, xI i0, xI i1, xR (a + 2)]) (st' := [xI i0, xR (a + 6), xR (a + 2)]) (fun _ _ _ k => e_aload_n dX9_page_115 rfl (i := 3) (x := (a + 2)) rfl (e_aload_n dX9_page_116 rfl (i := 3) (x := (a + 2)) rfl (e_getr dX9_page_117 flX9_265 (kd9_2 h_a) rfl (rf9_2_1 h_a) (e_iload_n dX9_page_120 rfl (i := 1) (x := i0) rfl k)))) ?_
        refine ev_callV (As := [xR (a + 6), xI i0]) (st := []) (fun v13 => [xI v13]) dX9_page_121 mlX9_349 (kd9_2 h_a) rfl rfl rfl rfl rfl rfl (c_X0_numberOn (d := d + 3) (sb9_2_0 h_a) (sb9_6_3 h_a) i0) (fun _ => trivial) (fun _ => rfl) (fun v13 => ?_)
        exact ev_ret (e_iret dX9_page_124)
      refine ev_ite (P := i1 = 4) (fun h14 => ?_) (fun h14 => ?_)
      · refine ev_st (pc' := 125) (L' := [xR a, xI i0, xI i1, xR (a + 2)]) (st' := []) (fun _ _ _ k => e_tin dX9_page_39 (tgt := 125) (off := 86) (by omega) (by omega) (by rw [h14]; rfl) rfl k) ?_
        refine ev_st (pc' := 127) (L' := [xR a, xI i0, xI i1, xR (a + 2)]) (st' := [xI i0, xR (a + 2)]) (fun _ _ _ k => e_aload_n dX9_page_125 rfl (i := 3) (x := (a + 2)) rfl (e_iload_n dX9_page_126 rfl (i := 1) (x := i0) rfl k)) ?_
        refine ev_callS (As := [xR (a + 2), xI i0]) (st := []) (fun v15 => [xI v15]) dX9_page_127 mlX9_352 rfl rfl rfl rfl rfl rfl (c_X9_uprightOn (d := d + 1) (sb9_2_0 h_a) i0) (fun _ => trivial) (fun _ => rfl) (fun v15 => ?_)
        exact ev_ret (e_iret dX9_page_130)
      refine ev_ite (P := i1 = 5) (fun h16 => ?_) (fun h16 => ?_)
      · refine ev_st (pc' := 131) (L' := [xR a, xI i0, xI i1, xR (a + 2)]) (st' := []) (fun _ _ _ k => e_tin dX9_page_39 (tgt := 131) (off := 92) (by omega) (by omega) (by rw [h16]; rfl) rfl k) ?_
        refine ev_st (pc' := 133) (L' := [xR a, xI i0, xI i1, xR (a + 2)]) (st' := [xI i0, xR (a + 2)]) (fun _ _ _ k => e_aload_n dX9_page_131 rfl (i := 3) (x := (a + 2)) rfl (e_iload_n dX9_page_132 rfl (i := 1) (x := i0) rfl k)) ?_
        refine ev_callV (As := [xI i0]) (st := []) (fun v17 => [xI (xz v17)]) dX9_page_133 mlX9_356 (kd9_2 h_a) rfl rfl rfl rfl rfl rfl (c_X0_isHidden (d := d + 2) (sb9_2_0 h_a) i0) (fun _ => xz01 _) (fun _ => rfl) (fun v17 => ?_)
        refine ev_callS (As := [xI (xz v17)]) (st := []) (fun v18 => [xI v18]) dX9_page_136 mlX9_280 rfl rfl rfl rfl rfl rfl (c_X9_asNumber (d := d + 5) v17) (fun _ => trivial) (fun _ => rfl) (fun v18 => ?_)
        exact ev_ret (e_iret dX9_page_139)
      refine ev_ite (P := i1 = 6) (fun h19 => ?_) (fun h19 => ?_)
      · refine ev_st (pc' := 140) (L' := [xR a, xI i0, xI i1, xR (a + 2)]) (st' := []) (fun _ _ _ k => e_tin dX9_page_39 (tgt := 140) (off := 101) (by omega) (by omega) (by rw [h19]; rfl) rfl k) ?_
        refine ev_st (pc' := 142) (L' := [xR a, xI i0, xI i1, xR (a + 2)]) (st' := [xI i0, xR (a + 2)]) (fun _ _ _ k => e_aload_n dX9_page_140 rfl (i := 3) (x := (a + 2)) rfl (e_iload_n dX9_page_141 rfl (i := 1) (x := i0) rfl k)) ?_
        refine ev_callV (As := [xI i0]) (st := []) (fun v20 => [xI v20]) dX9_page_142 mlX9_359 (kd9_2 h_a) rfl rfl rfl rfl rfl rfl (c_X0_whyNotRead (d := d + 1) (sb9_2_0 h_a) i0) (fun _ => trivial) (fun _ => rfl) (fun v20 => ?_)
        refine ev_br2 (P := v20 = 0) (pct := 148) (pcf := 152) (st' := []) (fun _ _ _ kt kf => e_ifne dX9_page_145 (tgt := 152) rfl kt kf) (fun h21 => ?_) (fun h21 => ?_)
        · refine ev_st (pc' := 153) (L' := [xR a, xI i0, xI i1, xR (a + 2)]) (st' := [xI 1]) (fun _ _ _ k => e_iconst dX9_page_148 (k4 rfl) (e_goto dX9_page_149 (tgt := 153) rfl k)) ?_
          refine ev_callS (As := [xI 1]) (st := []) (fun v22 => [xI v22]) dX9_page_153 mlX9_280 rfl rfl rfl rfl rfl rfl (c_X9_asNumber (d := d + 5) true) (fun _ => trivial) (fun _ => rfl) (fun v22 => ?_)
          exact ev_ret (e_iret dX9_page_156)
        · refine ev_st (pc' := 153) (L' := [xR a, xI i0, xI i1, xR (a + 2)]) (st' := [xI 0]) (fun _ _ _ k => e_iconst dX9_page_152 (k4 rfl) k) ?_
          refine ev_callS (As := [xI 0]) (st := []) (fun v23 => [xI v23]) dX9_page_153 mlX9_280 rfl rfl rfl rfl rfl rfl (c_X9_asNumber (d := d + 5) false) (fun _ => trivial) (fun _ => rfl) (fun v23 => ?_)
          exact ev_ret (e_iret dX9_page_156)
      refine ev_ite (P := i1 = 7) (fun h24 => ?_) (fun h24 => ?_)
      · refine ev_st (pc' := 157) (L' := [xR a, xI i0, xI i1, xR (a + 2)]) (st' := []) (fun _ _ _ k => e_tin dX9_page_39 (tgt := 157) (off := 118) (by omega) (by omega) (by rw [h24]; rfl) rfl k) ?_
        refine ev_st (pc' := 162) (L' := [xR a, xI i0, xI i1, xR (a + 2)]) (st' := [xR (a + 2), xR (a + 314)]) (fun _ _ _ k => e_aload_n dX9_page_157 rfl (i := 0) (x := a) rfl (e_getr dX9_page_158 flX9_33 (kd9_0 h_a) rfl (rf9_0_3 h_a) (e_aload_n dX9_page_161 rfl (i := 3) (x := (a + 2)) rfl k))) ?_
        refine ev_callV (As := [xR (a + 2)]) (st := []) (fun v25 => []) dX9_page_162 mlX9_362 (kd9_314 h_a) rfl rfl rfl rfl rfl rfl (c_X2_arrange (d := d) (sb9_314_2 h_a) (sb9_2_0 h_a)) (fun _ => trivial) (fun _ => rfl) (fun v25 => ?_)
        refine ev_st (pc' := 174) (L' := [xR a, xI i0, xI i1, xR (a + 2)]) (st' := [xR (a + 13), xI i0, xR (a + 314)]) (fun _ _ _ k => e_aload_n dX9_page_165 rfl (i := 0) (x := a) rfl (e_getr dX9_page_166 flX9_33 (kd9_0 h_a) rfl (rf9_0_3 h_a) (e_iload_n dX9_page_169 rfl (i := 1) (x := i0) rfl (e_aload_n dX9_page_170 rfl (i := 3) (x := (a + 2)) rfl (e_getr dX9_page_171 flX9_119 (kd9_2 h_a) rfl (rf9_2_3 h_a) k))))) ?_
        refine ev_callV (As := [xI i0, xR (a + 13)]) (st := []) (fun v26 => [xI v26]) dX9_page_174 mlX9_366 (kd9_314 h_a) rfl rfl rfl rfl rfl rfl (c_X2_takenOn (d := d + 2) (sb9_314_2 h_a) (sb9_13_4 h_a) i0) (fun _ => trivial) (fun _ => rfl) (fun v26 => ?_)
        exact ev_ret (e_iret dX9_page_177)
      refine ev_st (pc' := 178) (L' := [xR a, xI i0, xI i1, xR (a + 2)]) (st' := []) (fun _ _ _ k => e_tout dX9_page_39 (tgt := 178) (by omega) rfl k) ?_
      exact ev_ret (e_iconst dX9_page_178 (k4 rfl) (e_iret dX9_page_179))
    · exact ev_ret (e_iconst dX9_page_36 (k4 rfl) (e_iret dX9_page_37))
  · exact ev_ret (e_bipush dX9_page_18 rfl (k4 rfl) (e_iret dX9_page_20))
def f_X9_opening (a : Nat) (i0 : Int) (i1 : Int) (R : xN) : Option (Int) :=
  (f_X3_isBooklet (a + 6) R).bind (fun v1 =>
  if v1 = true then
  (f_X3_depth (a + 6) R).bind (fun v3 =>
  (f_X9_isIn i0 0 v3 R).bind (fun v4 =>
  if v4 = true then
  if i1 = 0 then
  (f_X0_shutEdges (a + 2) i0 R).bind (fun v7 =>
  if v7 = 0 then
  (f_X9_asNumber false R).bind (fun v9 =>
  some v9)
  else
  (f_X9_asNumber true R).bind (fun v10 =>
  some v10))
  else
  if i1 = 1 then
  (f_X0_shutEdges (a + 2) i0 R).bind (fun v12 =>
  some v12)
  else
  if i1 = 2 then
  (f_X0_linesAt (a + 2) i0 R).bind (fun v14 =>
  some v14)
  else
  some (-1)
  else
  some (-1)))
  else
  some (-2))
set_option maxRecDepth 20000 in
set_option maxHeartbeats 4000000 in
theorem c_X9_opening {l : Launch} {g : xG} {d : Nat} {A : xA} {R : xN} {a : Nat} (h_a : sh 9 A a) (i0 : Int) (i1 : Int) : Ev l g (d + 4) mX9_opening 0 [xR a, xI i0, xI i1, xU] [] A R (fun v : Int => some (xI v)) (fun _ => R) (f_X9_opening a i0 i1 R) := by
  rw [f_X9_opening]
  refine ev_st (pc' := 12) (L' := [xR a, xI i0, xI i1, xR (a + 2)]) (st' := [xR (a + 6)]) (fun _ _ _ k => e_aload_n dX9_opening_0 rfl (i := 0) (x := a) rfl (e_getr dX9_opening_1 flX9_10 (kd9_0 h_a) rfl (rf9_0_0 h_a) (e_getr dX9_opening_4 flX9_62 (kd9_1 h_a) rfl (rf9_1_0 h_a) (e_astore_n dX9_opening_7 rfl (i := 3) rfl (L' := [xR a, xI i0, xI i1, xR (a + 2)]) rfl (e_aload_n dX9_opening_8 rfl (i := 3) (x := (a + 2)) rfl (e_getr dX9_opening_9 flX9_265 (kd9_2 h_a) rfl (rf9_2_1 h_a) k)))))) ?_
  refine ev_callV (As := []) (st := []) (fun v1 => [xI (xz v1)]) dX9_opening_12 mlX9_277 (kd9_6 h_a) rfl rfl rfl rfl rfl rfl (c_X3_isBooklet (d := d + 3) (sb9_6_3 h_a)) (fun _ => xz01 _) (fun _ => rfl) (fun v1 => ?_)
  refine ev_br2 (P := v1 = true) (pct := 21) (pcf := 18) (st' := []) (fun _ _ _ kt kf => e_ifnez dX9_opening_15 (tgt := 21) rfl kt kf) (fun h2 => ?_) (fun h2 => ?_)
  · refine ev_st (pc' := 27) (L' := [xR a, xI i0, xI i1, xR (a + 2)]) (st' := [xR (a + 6), xI 0, xI i0]) (fun _ _ _ k => e_iload_n dX9_opening_21 rfl (i := 1) (x := i0) rfl (e_iconst dX9_opening_22 (k4 rfl) (e_aload_n dX9_opening_23 rfl (i := 3) (x := (a + 2)) rfl (e_getr dX9_opening_24 flX9_265 (kd9_2 h_a) rfl (rf9_2_1 h_a) k)))) ?_
    refine ev_callV (As := []) (st := [xI 0, xI i0]) (fun v3 => [xI v3, xI 0, xI i0]) dX9_opening_27 mlX9_271 (kd9_6 h_a) rfl rfl rfl rfl rfl rfl (c_X3_depth (d := d + 3) (sb9_6_3 h_a)) (fun _ => trivial) (fun _ => rfl) (fun v3 => ?_)
    refine ev_callS (As := [xI i0, xI 0, xI v3]) (st := []) (fun v4 => [xI (xz v4)]) dX9_opening_30 mlX9_145 rfl rfl rfl rfl rfl rfl (c_X9_isIn (d := d + 3) i0 0 v3) (fun _ => xz01 _) (fun _ => rfl) (fun v4 => ?_)
    refine ev_br2 (P := v4 = true) (pct := 38) (pcf := 36) (st' := []) (fun _ _ _ kt kf => e_ifnez dX9_opening_33 (tgt := 38) rfl kt kf) (fun h5 => ?_) (fun h5 => ?_)
    · refine ev_st (pc' := 39) (L' := [xR a, xI i0, xI i1, xR (a + 2)]) (st' := [xI i1]) (fun _ _ _ k => e_iload_n dX9_opening_38 rfl (i := 2) (x := i1) rfl k) ?_
      refine ev_ite (P := i1 = 0) (fun h6 => ?_) (fun h6 => ?_)
      · refine ev_st (pc' := 64) (L' := [xR a, xI i0, xI i1, xR (a + 2)]) (st' := []) (fun _ _ _ k => e_tin dX9_opening_39 (tgt := 64) (off := 25) (by omega) (by omega) (by rw [h6]; rfl) rfl k) ?_
        refine ev_st (pc' := 66) (L' := [xR a, xI i0, xI i1, xR (a + 2)]) (st' := [xI i0, xR (a + 2)]) (fun _ _ _ k => e_aload_n dX9_opening_64 rfl (i := 3) (x := (a + 2)) rfl (e_iload_n dX9_opening_65 rfl (i := 1) (x := i0) rfl k)) ?_
        refine ev_callV (As := [xI i0]) (st := []) (fun v7 => [xI v7]) dX9_opening_66 mlX9_374 (kd9_2 h_a) rfl rfl rfl rfl rfl rfl (c_X0_shutEdges (d := d + 1) (sb9_2_0 h_a) i0) (fun _ => trivial) (fun _ => rfl) (fun v7 => ?_)
        refine ev_br2 (P := v7 = 0) (pct := 76) (pcf := 72) (st' := []) (fun _ _ _ kt kf => e_ifeq dX9_opening_69 (tgt := 76) rfl kt kf) (fun h8 => ?_) (fun h8 => ?_)
        · refine ev_st (pc' := 77) (L' := [xR a, xI i0, xI i1, xR (a + 2)]) (st' := [xI 0]) (fun _ _ _ k => e_iconst dX9_opening_76 (k4 rfl) k) ?_
          refine ev_callS (As := [xI 0]) (st := []) (fun v9 => [xI v9]) dX9_opening_77 mlX9_280 rfl rfl rfl rfl rfl rfl (c_X9_asNumber (d := d + 3) false) (fun _ => trivial) (fun _ => rfl) (fun v9 => ?_)
          exact ev_ret (e_iret dX9_opening_80)
        · refine ev_st (pc' := 77) (L' := [xR a, xI i0, xI i1, xR (a + 2)]) (st' := [xI 1]) (fun _ _ _ k => e_iconst dX9_opening_72 (k4 rfl) (e_goto dX9_opening_73 (tgt := 77) rfl k)) ?_
          refine ev_callS (As := [xI 1]) (st := []) (fun v10 => [xI v10]) dX9_opening_77 mlX9_280 rfl rfl rfl rfl rfl rfl (c_X9_asNumber (d := d + 3) true) (fun _ => trivial) (fun _ => rfl) (fun v10 => ?_)
          exact ev_ret (e_iret dX9_opening_80)
      refine ev_ite (P := i1 = 1) (fun h11 => ?_) (fun h11 => ?_)
      · refine ev_st (pc' := 81) (L' := [xR a, xI i0, xI i1, xR (a + 2)]) (st' := []) (fun _ _ _ k => e_tin dX9_opening_39 (tgt := 81) (off := 42) (by omega) (by omega) (by rw [h11]; rfl) rfl k) ?_
        refine ev_st (pc' := 83) (L' := [xR a, xI i0, xI i1, xR (a + 2)]) (st' := [xI i0, xR (a + 2)]) (fun _ _ _ k => e_aload_n dX9_opening_81 rfl (i := 3) (x := (a + 2)) rfl (e_iload_n dX9_opening_82 rfl (i := 1) (x := i0) rfl k)) ?_
        refine ev_callV (As := [xI i0]) (st := []) (fun v12 => [xI v12]) dX9_opening_83 mlX9_374 (kd9_2 h_a) rfl rfl rfl rfl rfl rfl (c_X0_shutEdges (d := d + 1) (sb9_2_0 h_a) i0) (fun _ => trivial) (fun _ => rfl) (fun v12 => ?_)
        exact ev_ret (e_iret dX9_opening_86)
      refine ev_ite (P := i1 = 2) (fun h13 => ?_) (fun h13 => ?_)
      · refine ev_st (pc' := 87) (L' := [xR a, xI i0, xI i1, xR (a + 2)]) (st' := []) (fun _ _ _ k => e_tin dX9_opening_39 (tgt := 87) (off := 48) (by omega) (by omega) (by rw [h13]; rfl) rfl k) ?_
        refine ev_st (pc' := 89) (L' := [xR a, xI i0, xI i1, xR (a + 2)]) (st' := [xI i0, xR (a + 2)]) (fun _ _ _ k => e_aload_n dX9_opening_87 rfl (i := 3) (x := (a + 2)) rfl (e_iload_n dX9_opening_88 rfl (i := 1) (x := i0) rfl k)) ?_
        refine ev_callV (As := [xI i0]) (st := []) (fun v14 => [xI v14]) dX9_opening_89 mlX9_377 (kd9_2 h_a) rfl rfl rfl rfl rfl rfl (c_X0_linesAt (d := d) (sb9_2_0 h_a) i0) (fun _ => trivial) (fun _ => rfl) (fun v14 => ?_)
        exact ev_ret (e_iret dX9_opening_92)
      refine ev_st (pc' := 93) (L' := [xR a, xI i0, xI i1, xR (a + 2)]) (st' := []) (fun _ _ _ k => e_tout dX9_opening_39 (tgt := 93) (by omega) rfl k) ?_
      exact ev_ret (e_iconst dX9_opening_93 (k4 rfl) (e_iret dX9_opening_94))
    · exact ev_ret (e_iconst dX9_opening_36 (k4 rfl) (e_iret dX9_opening_37))
  · exact ev_ret (e_bipush dX9_opening_18 rfl (k4 rfl) (e_iret dX9_opening_20))
def f_X9_hanging (a : Nat) (i0 : Int) (R : xN) : Option (Int) :=
  (f_X3_isBooklet (a + 6) R).bind (fun v1 =>
  if v1 = true then
  (f_X9_isIn i0 0 3 R).bind (fun v3 =>
  if v3 = true then
  (f_X9_isInSet i0 (R (a + 2) 6) R).bind (fun v5 =>
  if v5 = true then
  some 0
  else
  (f_X3_pairsAlong (a + 6) i0 R).bind (fun v7 =>
  some v7))
  else
  some (-1))
  else
  some (-2))
set_option maxRecDepth 20000 in
set_option maxHeartbeats 4000000 in
theorem c_X9_hanging {l : Launch} {g : xG} {d : Nat} {A : xA} {R : xN} {a : Nat} (h_a : sh 9 A a) (i0 : Int) : Ev l g (d + 3) mX9_hanging 0 [xR a, xI i0, xU] [] A R (fun v : Int => some (xI v)) (fun _ => R) (f_X9_hanging a i0 R) := by
  rw [f_X9_hanging]
  refine ev_st (pc' := 12) (L' := [xR a, xI i0, xR (a + 2)]) (st' := [xR (a + 6)]) (fun _ _ _ k => e_aload_n dX9_hanging_0 rfl (i := 0) (x := a) rfl (e_getr dX9_hanging_1 flX9_10 (kd9_0 h_a) rfl (rf9_0_0 h_a) (e_getr dX9_hanging_4 flX9_62 (kd9_1 h_a) rfl (rf9_1_0 h_a) (e_astore_n dX9_hanging_7 rfl (i := 2) rfl (L' := [xR a, xI i0, xR (a + 2)]) rfl (e_aload_n dX9_hanging_8 rfl (i := 2) (x := (a + 2)) rfl (e_getr dX9_hanging_9 flX9_265 (kd9_2 h_a) rfl (rf9_2_1 h_a) k)))))) ?_
  refine ev_callV (As := []) (st := []) (fun v1 => [xI (xz v1)]) dX9_hanging_12 mlX9_277 (kd9_6 h_a) rfl rfl rfl rfl rfl rfl (c_X3_isBooklet (d := d + 2) (sb9_6_3 h_a)) (fun _ => xz01 _) (fun _ => rfl) (fun v1 => ?_)
  refine ev_br2 (P := v1 = true) (pct := 21) (pcf := 18) (st' := []) (fun _ _ _ kt kf => e_ifnez dX9_hanging_15 (tgt := 21) rfl kt kf) (fun h2 => ?_) (fun h2 => ?_)
  · refine ev_st (pc' := 24) (L' := [xR a, xI i0, xR (a + 2)]) (st' := [xI 3, xI 0, xI i0]) (fun _ _ _ k => e_iload_n dX9_hanging_21 rfl (i := 1) (x := i0) rfl (e_iconst dX9_hanging_22 (k4 rfl) (e_iconst dX9_hanging_23 (k4 rfl) k))) ?_
    refine ev_callS (As := [xI i0, xI 0, xI 3]) (st := []) (fun v3 => [xI (xz v3)]) dX9_hanging_24 mlX9_145 rfl rfl rfl rfl rfl rfl (c_X9_isIn (d := d + 2) i0 0 3) (fun _ => xz01 _) (fun _ => rfl) (fun v3 => ?_)
    refine ev_br2 (P := v3 = true) (pct := 32) (pcf := 30) (st' := []) (fun _ _ _ kt kf => e_ifnez dX9_hanging_27 (tgt := 32) rfl kt kf) (fun h4 => ?_) (fun h4 => ?_)
    · refine ev_st (pc' := 37) (L' := [xR a, xI i0, xR (a + 2)]) (st' := [xI (R (a + 2) 6), xI i0]) (fun _ _ _ k => e_iload_n dX9_hanging_32 rfl (i := 1) (x := i0) rfl (e_aload_n dX9_hanging_33 rfl (i := 2) (x := (a + 2)) rfl (e_geti dX9_hanging_34 flX9_284 (kd9_2 h_a) (Or.inl rfl) k))) ?_
      refine ev_callS (As := [xI i0, xI (R (a + 2) 6)]) (st := []) (fun v5 => [xI (xz v5)]) dX9_hanging_37 mlX9_380 rfl rfl rfl rfl rfl rfl (c_X9_isInSet (d := d + 2) i0 (R (a + 2) 6)) (fun _ => xz01 _) (fun _ => rfl) (fun v5 => ?_)
      refine ev_br2 (P := v5 = true) (pct := 43) (pcf := 47) (st' := []) (fun _ _ _ kt kf => e_ifeqz dX9_hanging_40 (tgt := 47) rfl kt kf) (fun h6 => ?_) (fun h6 => ?_)
      · exact ev_ret (e_iconst dX9_hanging_43 (k4 rfl) (e_goto dX9_hanging_44 (tgt := 55) rfl (e_iret dX9_hanging_55)))
      · refine ev_st (pc' := 52) (L' := [xR a, xI i0, xR (a + 2)]) (st' := [xI i0, xR (a + 6)]) (fun _ _ _ k => e_aload_n dX9_hanging_47 rfl (i := 2) (x := (a + 2)) rfl (e_getr dX9_hanging_48 flX9_265 (kd9_2 h_a) rfl (rf9_2_1 h_a) (e_iload_n dX9_hanging_51 rfl (i := 1) (x := i0) rfl k))) ?_
        refine ev_callV (As := [xI i0]) (st := []) (fun v7 => [xI v7]) dX9_hanging_52 mlX9_384 (kd9_6 h_a) rfl rfl rfl rfl rfl rfl (c_X3_pairsAlong (d := d) (sb9_6_3 h_a) i0) (fun _ => trivial) (fun _ => rfl) (fun v7 => ?_)
        exact ev_ret (e_iret dX9_hanging_55)
    · exact ev_ret (e_iconst dX9_hanging_30 (k4 rfl) (e_iret dX9_hanging_31))
  · exact ev_ret (e_bipush dX9_hanging_18 rfl (k4 rfl) (e_iret dX9_hanging_20))
def f_X9_pieces (a : Nat) (R : xN) : Option (Int) :=
  (f_X3_isBooklet (a + 6) R).bind (fun v1 =>
  if v1 = true then
  (f_X0_countPieces (a + 2) R).bind (fun v3 =>
  some v3)
  else
  some (-2))
set_option maxRecDepth 20000 in
set_option maxHeartbeats 4000000 in
theorem c_X9_pieces {l : Launch} {g : xG} {d : Nat} {A : xA} {R : xN} {a : Nat} (h_a : sh 9 A a)  : Ev l g (d + 5) mX9_pieces 0 [xR a, xU] [] A R (fun v : Int => some (xI v)) (fun _ => R) (f_X9_pieces a R) := by
  rw [f_X9_pieces]
  refine ev_st (pc' := 12) (L' := [xR a, xR (a + 2)]) (st' := [xR (a + 6)]) (fun _ _ _ k => e_aload_n dX9_pieces_0 rfl (i := 0) (x := a) rfl (e_getr dX9_pieces_1 flX9_10 (kd9_0 h_a) rfl (rf9_0_0 h_a) (e_getr dX9_pieces_4 flX9_62 (kd9_1 h_a) rfl (rf9_1_0 h_a) (e_astore_n dX9_pieces_7 rfl (i := 1) rfl (L' := [xR a, xR (a + 2)]) rfl (e_aload_n dX9_pieces_8 rfl (i := 1) (x := (a + 2)) rfl (e_getr dX9_pieces_9 flX9_265 (kd9_2 h_a) rfl (rf9_2_1 h_a) k)))))) ?_
  refine ev_callV (As := []) (st := []) (fun v1 => [xI (xz v1)]) dX9_pieces_12 mlX9_277 (kd9_6 h_a) rfl rfl rfl rfl rfl rfl (c_X3_isBooklet (d := d + 4) (sb9_6_3 h_a)) (fun _ => xz01 _) (fun _ => rfl) (fun v1 => ?_)
  refine ev_br2 (P := v1 = true) (pct := 18) (pcf := 25) (st' := []) (fun _ _ _ kt kf => e_ifeqz dX9_pieces_15 (tgt := 25) rfl kt kf) (fun h2 => ?_) (fun h2 => ?_)
  · refine ev_st (pc' := 19) (L' := [xR a, xR (a + 2)]) (st' := [xR (a + 2)]) (fun _ _ _ k => e_aload_n dX9_pieces_18 rfl (i := 1) (x := (a + 2)) rfl k) ?_
    refine ev_callV (As := []) (st := []) (fun v3 => [xI v3]) dX9_pieces_19 mlX9_390 (kd9_2 h_a) rfl rfl rfl rfl rfl rfl (c_X0_countPieces (d := d) (sb9_2_0 h_a)) (fun _ => trivial) (fun _ => rfl) (fun v3 => ?_)
    exact ev_ret (e_goto dX9_pieces_22 (tgt := 27) rfl (e_iret dX9_pieces_27))
  · exact ev_ret (e_bipush dX9_pieces_25 rfl (k4 rfl) (e_iret dX9_pieces_27))
def lp_X9_reading_43 (a : Nat) (p1 : Int) (p3 : Int) (R : xN) : Nat → Int → (Int → Option (Int)) → Option (Int)
  | 0, _, _ => none
  | n + 1, y4, X =>
    if p3 < y4 then
    X y4
    else
    (f_X0_whyNotRead (a + 2) y4 R).bind (fun v7 =>
    if v7 = 0 then
    xlet (w4 (y4 + 1)) (fun x9 =>
    lp_X9_reading_43 a p1 p3 R n x9 X)
    else
    xlet (if p1 = 2 then v7 else y4) (fun t10 =>
    some t10))
def f_X9_reading (a : Nat) (i0 : Int) (R : xN) : Option (Int) :=
  (f_X3_isBooklet (a + 6) R).bind (fun v1 =>
  if v1 = true then
  (f_X9_isIn i0 0 2 R).bind (fun v3 =>
  if v3 = true then
  (f_X3_lastPage (a + 6) R).bind (fun v5 =>
  lp_X9_reading_43 a i0 v5 R 6000 0 (fun z11 =>
  xlet (if i0 = 0 then (w4 (v5 + 1)) else (-9)) (fun t12 =>
  some t12)))
  else
  some (-1))
  else
  some (-2))
set_option maxRecDepth 20000 in
set_option maxHeartbeats 4000000 in
theorem lc_X9_reading_43 {l : Launch} {g : xG} {d : Nat} {A : xA} {a : Nat} (h_a : sh 9 A a) (p1 : Int) (p3 : Int) (R : xN) {X : Int → Option (Int)} (hX : ∀ (y4 : Int), Ev l g (d + 5) mX9_reading 81 [xU, xI p1, xU, xI p3, xU, xU] [] A R (fun v : Int => some (xI v)) (fun _ => R) (X y4)) (n : Nat) (y4 : Int) : Ev l g (d + 5) mX9_reading 43 [xU, xI p1, xR (a + 2), xI p3, xI y4, xU] [] A R (fun v : Int => some (xI v)) (fun _ => R) (lp_X9_reading_43 a p1 p3 R n y4 X) := by
  induction n generalizing y4 with
  | zero => exact ev_none
  | succ n ih =>
    rw [lp_X9_reading_43]
    refine ev_st (pc' := 46) (L' := [xU, xI p1, xR (a + 2), xI p3, xI y4, xU]) (st' := [xI p3, xI y4]) (fun _ _ _ k => e_iload dX9_reading_43 (i := 4) (x := y4) rfl (e_iload_n dX9_reading_45 rfl (i := 3) (x := p3) rfl k)) ?_
    refine ev_br2 (P := p3 < y4) (pct := 81) (pcf := 49) (st' := []) (fun _ _ _ kt kf => e_cgt dX9_reading_46 (tgt := 81) rfl kt kf) (fun h6 => ?_) (fun h6 => ?_)
    · refine ev_st (pc' := 81) (L' := [xU, xI p1, xU, xI p3, xU, xU]) (st' := []) (fun _ _ _ k => e_fg [2, 4] k) ?_
      exact hX y4
    · refine ev_st (pc' := 52) (L' := [xU, xI p1, xR (a + 2), xI p3, xI y4, xU]) (st' := [xI y4, xR (a + 2)]) (fun _ _ _ k => e_aload_n dX9_reading_49 rfl (i := 2) (x := (a + 2)) rfl (e_iload dX9_reading_50 (i := 4) (x := y4) rfl k)) ?_
      refine ev_callV (As := [xI y4]) (st := []) (fun v7 => [xI v7]) dX9_reading_52 mlX9_359 (kd9_2 h_a) rfl rfl rfl rfl rfl rfl (c_X0_whyNotRead (d := d) (sb9_2_0 h_a) y4) (fun _ => trivial) (fun _ => rfl) (fun v7 => ?_)
      refine ev_st (pc' := 59) (L' := [xU, xI p1, xR (a + 2), xI p3, xI y4, xI v7]) (st' := [xI v7]) (fun _ _ _ k => e_istore dX9_reading_55 (i := 5) rfl (L' := [xU, xI p1, xR (a + 2), xI p3, xI y4, xI v7]) rfl (e_iload dX9_reading_57 (i := 5) (x := v7) rfl k)) ?_
      refine ev_br2 (P := v7 = 0) (pct := 75) (pcf := 62) (st' := []) (fun _ _ _ kt kf => e_ifeq dX9_reading_59 (tgt := 75) rfl kt kf) (fun h8 => ?_) (fun h8 => ?_)
      · refine ev_letx (fun x9 ex9 => ?_)
        refine ev_st (pc' := 78) (L' := [xU, xI p1, xR (a + 2), xI p3, xI x9, xI v7]) (st' := []) (fun _ _ _ k => e_iinc dX9_reading_75 (i := 4) rfl (x := y4) rfl (y := x9) ex9 (L' := [xU, xI p1, xR (a + 2), xI p3, xI x9, xI v7]) rfl k) ?_
        refine ev_st (pc' := 43) (L' := [xU, xI p1, xR (a + 2), xI p3, xI x9, xU]) (st' := []) (fun _ _ _ k => e_goto dX9_reading_78 (tgt := 43) rfl (e_fg [5] k)) ?_
        exact ih x9
      · refine ev_st (pc' := 64) (L' := [xU, xI p1, xR (a + 2), xI p3, xI y4, xI v7]) (st' := [xI 2, xI p1]) (fun _ _ _ k => e_iload_n dX9_reading_62 rfl (i := 1) (x := p1) rfl (e_iconst dX9_reading_63 (k4 rfl) k)) ?_
        refine ev_tern (P := p1 = 2) (a := v7) (b := y4) (pct := 67) (pcf := 72) (J := 74) (st' := []) (fun _ _ _ kt kf => e_cne dX9_reading_64 (tgt := 72) rfl kt kf) (fun _ _ _ k => e_iload dX9_reading_67 (i := 5) (x := v7) rfl (e_goto dX9_reading_69 (tgt := 74) rfl k)) (fun _ _ _ k => e_iload dX9_reading_72 (i := 4) (x := y4) rfl k) (fun t10 et10 => ?_)
        exact ev_ret (e_iret dX9_reading_74)
set_option maxRecDepth 20000 in
set_option maxHeartbeats 4000000 in
theorem c_X9_reading {l : Launch} {g : xG} {d : Nat} {A : xA} {R : xN} {a : Nat} (h_a : sh 9 A a) (i0 : Int) : Ev l g (d + 5) mX9_reading 0 [xR a, xI i0, xU, xU, xU, xU] [] A R (fun v : Int => some (xI v)) (fun _ => R) (f_X9_reading a i0 R) := by
  rw [f_X9_reading]
  refine ev_st (pc' := 12) (L' := [xR a, xI i0, xR (a + 2), xU, xU, xU]) (st' := [xR (a + 6)]) (fun _ _ _ k => e_aload_n dX9_reading_0 rfl (i := 0) (x := a) rfl (e_getr dX9_reading_1 flX9_10 (kd9_0 h_a) rfl (rf9_0_0 h_a) (e_getr dX9_reading_4 flX9_62 (kd9_1 h_a) rfl (rf9_1_0 h_a) (e_astore_n dX9_reading_7 rfl (i := 2) rfl (L' := [xR a, xI i0, xR (a + 2), xU, xU, xU]) rfl (e_aload_n dX9_reading_8 rfl (i := 2) (x := (a + 2)) rfl (e_getr dX9_reading_9 flX9_265 (kd9_2 h_a) rfl (rf9_2_1 h_a) k)))))) ?_
  refine ev_callV (As := []) (st := []) (fun v1 => [xI (xz v1)]) dX9_reading_12 mlX9_277 (kd9_6 h_a) rfl rfl rfl rfl rfl rfl (c_X3_isBooklet (d := d + 4) (sb9_6_3 h_a)) (fun _ => xz01 _) (fun _ => rfl) (fun v1 => ?_)
  refine ev_br2 (P := v1 = true) (pct := 21) (pcf := 18) (st' := []) (fun _ _ _ kt kf => e_ifnez dX9_reading_15 (tgt := 21) rfl kt kf) (fun h2 => ?_) (fun h2 => ?_)
  · refine ev_st (pc' := 24) (L' := [xR a, xI i0, xR (a + 2), xU, xU, xU]) (st' := [xI 2, xI 0, xI i0]) (fun _ _ _ k => e_iload_n dX9_reading_21 rfl (i := 1) (x := i0) rfl (e_iconst dX9_reading_22 (k4 rfl) (e_iconst dX9_reading_23 (k4 rfl) k))) ?_
    refine ev_callS (As := [xI i0, xI 0, xI 2]) (st := []) (fun v3 => [xI (xz v3)]) dX9_reading_24 mlX9_145 rfl rfl rfl rfl rfl rfl (c_X9_isIn (d := d + 4) i0 0 2) (fun _ => xz01 _) (fun _ => rfl) (fun v3 => ?_)
    refine ev_br2 (P := v3 = true) (pct := 32) (pcf := 30) (st' := []) (fun _ _ _ kt kf => e_ifnez dX9_reading_27 (tgt := 32) rfl kt kf) (fun h4 => ?_) (fun h4 => ?_)
    · refine ev_st (pc' := 36) (L' := [xR a, xI i0, xR (a + 2), xU, xU, xU]) (st' := [xR (a + 6)]) (fun _ _ _ k => e_aload_n dX9_reading_32 rfl (i := 2) (x := (a + 2)) rfl (e_getr dX9_reading_33 flX9_265 (kd9_2 h_a) rfl (rf9_2_1 h_a) k)) ?_
      refine ev_callV (As := []) (st := []) (fun v5 => [xI v5]) dX9_reading_36 mlX9_343 (kd9_6 h_a) rfl rfl rfl rfl rfl rfl (c_X3_lastPage (d := d + 3) (sb9_6_3 h_a)) (fun _ => trivial) (fun _ => rfl) (fun v5 => ?_)
      refine ev_st (pc' := 43) (L' := [xU, xI i0, xR (a + 2), xI v5, xI 0, xU]) (st' := []) (fun _ _ _ k => e_istore_n dX9_reading_39 rfl (i := 3) rfl (L' := [xR a, xI i0, xR (a + 2), xI v5, xU, xU]) rfl (e_iconst dX9_reading_40 (k4 rfl) (e_istore dX9_reading_41 (i := 4) rfl (L' := [xR a, xI i0, xR (a + 2), xI v5, xI 0, xU]) rfl (e_fg [0] k)))) ?_
      refine lc_X9_reading_43 h_a i0 v5 R (fun z11 => ?_) 6000 0
      refine ev_st (pc' := 82) (L' := [xU, xI i0, xU, xI v5, xU, xU]) (st' := [xI i0]) (fun _ _ _ k => e_iload_n dX9_reading_81 rfl (i := 1) (x := i0) rfl k) ?_
      refine ev_tern (P := i0 = 0) (a := (w4 (v5 + 1))) (b := (-9)) (pct := 85) (pcf := 91) (J := 93) (st' := []) (fun _ _ _ kt kf => e_ifne dX9_reading_82 (tgt := 91) rfl kt kf) (fun _ _ _ k => e_iload_n dX9_reading_85 rfl (i := 3) (x := v5) rfl (e_iconst dX9_reading_86 (k4 rfl) (e_iadd dX9_reading_87 (e_goto dX9_reading_88 (tgt := 93) rfl k)))) (fun _ _ _ k => e_bipush dX9_reading_91 rfl (k4 rfl) k) (fun t12 et12 => ?_)
      exact ev_ret (e_iret dX9_reading_93)
    · exact ev_ret (e_iconst dX9_reading_30 (k4 rfl) (e_iret dX9_reading_31))
  · exact ev_ret (e_bipush dX9_reading_18 rfl (k4 rfl) (e_iret dX9_reading_20))
def lp_X9_pageOf_44 (a : Nat) (p1 : Int) (p3 : Int) (R : xN) : Nat → Int → (Int → Option (Int)) → Option (Int)
  | 0, _, _ => none
  | n + 1, y4, X =>
    if p3 < y4 then
    X y4
    else
    (f_X0_numberOn (a + 2) (a + 6) y4 R).bind (fun v7 =>
    if v7 = p1 then
    some y4
    else
    xlet (w4 (y4 + 1)) (fun x9 =>
    lp_X9_pageOf_44 a p1 p3 R n x9 X))
def f_X9_pageOf (a : Nat) (i0 : Int) (R : xN) : Option (Int) :=
  (f_X3_isBooklet (a + 6) R).bind (fun v1 =>
  if v1 = true then
  (f_X9_isIn i0 0 31 R).bind (fun v3 =>
  if v3 = true then
  (f_X3_lastPage (a + 6) R).bind (fun v5 =>
  lp_X9_pageOf_44 a i0 v5 R 6000 0 (fun z10 =>
  some (-9)))
  else
  some (-1))
  else
  some (-2))
set_option maxRecDepth 20000 in
set_option maxHeartbeats 4000000 in
theorem lc_X9_pageOf_44 {l : Launch} {g : xG} {d : Nat} {A : xA} {a : Nat} (h_a : sh 9 A a) (p1 : Int) (p3 : Int) (R : xN) {X : Int → Option (Int)} (hX : ∀ (y4 : Int), Ev l g (d + 3) mX9_pageOf 73 [xU, xU, xU, xU, xU] [] A R (fun v : Int => some (xI v)) (fun _ => R) (X y4)) (n : Nat) (y4 : Int) : Ev l g (d + 3) mX9_pageOf 44 [xU, xI p1, xR (a + 2), xI p3, xI y4] [] A R (fun v : Int => some (xI v)) (fun _ => R) (lp_X9_pageOf_44 a p1 p3 R n y4 X) := by
  induction n generalizing y4 with
  | zero => exact ev_none
  | succ n ih =>
    rw [lp_X9_pageOf_44]
    refine ev_st (pc' := 47) (L' := [xU, xI p1, xR (a + 2), xI p3, xI y4]) (st' := [xI p3, xI y4]) (fun _ _ _ k => e_iload dX9_pageOf_44 (i := 4) (x := y4) rfl (e_iload_n dX9_pageOf_46 rfl (i := 3) (x := p3) rfl k)) ?_
    refine ev_br2 (P := p3 < y4) (pct := 73) (pcf := 50) (st' := []) (fun _ _ _ kt kf => e_cgt dX9_pageOf_47 (tgt := 73) rfl kt kf) (fun h6 => ?_) (fun h6 => ?_)
    · refine ev_st (pc' := 73) (L' := [xU, xU, xU, xU, xU]) (st' := []) (fun _ _ _ k => e_fg [1, 2, 3, 4] k) ?_
      exact hX y4
    · refine ev_st (pc' := 57) (L' := [xU, xI p1, xR (a + 2), xI p3, xI y4]) (st' := [xI y4, xR (a + 6), xR (a + 2)]) (fun _ _ _ k => e_aload_n dX9_pageOf_50 rfl (i := 2) (x := (a + 2)) rfl (e_aload_n dX9_pageOf_51 rfl (i := 2) (x := (a + 2)) rfl (e_getr dX9_pageOf_52 flX9_265 (kd9_2 h_a) rfl (rf9_2_1 h_a) (e_iload dX9_pageOf_55 (i := 4) (x := y4) rfl k)))) ?_
      refine ev_callV (As := [xR (a + 6), xI y4]) (st := []) (fun v7 => [xI v7]) dX9_pageOf_57 mlX9_349 (kd9_2 h_a) rfl rfl rfl rfl rfl rfl (c_X0_numberOn (d := d) (sb9_2_0 h_a) (sb9_6_3 h_a) y4) (fun _ => trivial) (fun _ => rfl) (fun v7 => ?_)
      refine ev_st (pc' := 61) (L' := [xU, xI p1, xR (a + 2), xI p3, xI y4]) (st' := [xI p1, xI v7]) (fun _ _ _ k => e_iload_n dX9_pageOf_60 rfl (i := 1) (x := p1) rfl k) ?_
      refine ev_br2 (P := v7 = p1) (pct := 64) (pcf := 67) (st' := []) (fun _ _ _ kt kf => e_cne dX9_pageOf_61 (tgt := 67) rfl kt kf) (fun h8 => ?_) (fun h8 => ?_)
      · exact ev_ret (e_iload dX9_pageOf_64 (i := 4) (x := y4) rfl (e_iret dX9_pageOf_66))
      · refine ev_letx (fun x9 ex9 => ?_)
        refine ev_st (pc' := 70) (L' := [xU, xI p1, xR (a + 2), xI p3, xI x9]) (st' := []) (fun _ _ _ k => e_iinc dX9_pageOf_67 (i := 4) rfl (x := y4) rfl (y := x9) ex9 (L' := [xU, xI p1, xR (a + 2), xI p3, xI x9]) rfl k) ?_
        refine ev_st (pc' := 44) (L' := [xU, xI p1, xR (a + 2), xI p3, xI x9]) (st' := []) (fun _ _ _ k => e_goto dX9_pageOf_70 (tgt := 44) rfl k) ?_
        exact ih x9
set_option maxRecDepth 20000 in
set_option maxHeartbeats 4000000 in
theorem c_X9_pageOf {l : Launch} {g : xG} {d : Nat} {A : xA} {R : xN} {a : Nat} (h_a : sh 9 A a) (i0 : Int) : Ev l g (d + 3) mX9_pageOf 0 [xR a, xI i0, xU, xU, xU] [] A R (fun v : Int => some (xI v)) (fun _ => R) (f_X9_pageOf a i0 R) := by
  rw [f_X9_pageOf]
  refine ev_st (pc' := 12) (L' := [xR a, xI i0, xR (a + 2), xU, xU]) (st' := [xR (a + 6)]) (fun _ _ _ k => e_aload_n dX9_pageOf_0 rfl (i := 0) (x := a) rfl (e_getr dX9_pageOf_1 flX9_10 (kd9_0 h_a) rfl (rf9_0_0 h_a) (e_getr dX9_pageOf_4 flX9_62 (kd9_1 h_a) rfl (rf9_1_0 h_a) (e_astore_n dX9_pageOf_7 rfl (i := 2) rfl (L' := [xR a, xI i0, xR (a + 2), xU, xU]) rfl (e_aload_n dX9_pageOf_8 rfl (i := 2) (x := (a + 2)) rfl (e_getr dX9_pageOf_9 flX9_265 (kd9_2 h_a) rfl (rf9_2_1 h_a) k)))))) ?_
  refine ev_callV (As := []) (st := []) (fun v1 => [xI (xz v1)]) dX9_pageOf_12 mlX9_277 (kd9_6 h_a) rfl rfl rfl rfl rfl rfl (c_X3_isBooklet (d := d + 2) (sb9_6_3 h_a)) (fun _ => xz01 _) (fun _ => rfl) (fun v1 => ?_)
  refine ev_br2 (P := v1 = true) (pct := 21) (pcf := 18) (st' := []) (fun _ _ _ kt kf => e_ifnez dX9_pageOf_15 (tgt := 21) rfl kt kf) (fun h2 => ?_) (fun h2 => ?_)
  · refine ev_st (pc' := 25) (L' := [xR a, xI i0, xR (a + 2), xU, xU]) (st' := [xI 31, xI 0, xI i0]) (fun _ _ _ k => e_iload_n dX9_pageOf_21 rfl (i := 1) (x := i0) rfl (e_iconst dX9_pageOf_22 (k4 rfl) (e_bipush dX9_pageOf_23 rfl (k4 rfl) k))) ?_
    refine ev_callS (As := [xI i0, xI 0, xI 31]) (st := []) (fun v3 => [xI (xz v3)]) dX9_pageOf_25 mlX9_145 rfl rfl rfl rfl rfl rfl (c_X9_isIn (d := d + 2) i0 0 31) (fun _ => xz01 _) (fun _ => rfl) (fun v3 => ?_)
    refine ev_br2 (P := v3 = true) (pct := 33) (pcf := 31) (st' := []) (fun _ _ _ kt kf => e_ifnez dX9_pageOf_28 (tgt := 33) rfl kt kf) (fun h4 => ?_) (fun h4 => ?_)
    · refine ev_st (pc' := 37) (L' := [xR a, xI i0, xR (a + 2), xU, xU]) (st' := [xR (a + 6)]) (fun _ _ _ k => e_aload_n dX9_pageOf_33 rfl (i := 2) (x := (a + 2)) rfl (e_getr dX9_pageOf_34 flX9_265 (kd9_2 h_a) rfl (rf9_2_1 h_a) k)) ?_
      refine ev_callV (As := []) (st := []) (fun v5 => [xI v5]) dX9_pageOf_37 mlX9_343 (kd9_6 h_a) rfl rfl rfl rfl rfl rfl (c_X3_lastPage (d := d + 1) (sb9_6_3 h_a)) (fun _ => trivial) (fun _ => rfl) (fun v5 => ?_)
      refine ev_st (pc' := 44) (L' := [xU, xI i0, xR (a + 2), xI v5, xI 0]) (st' := []) (fun _ _ _ k => e_istore_n dX9_pageOf_40 rfl (i := 3) rfl (L' := [xR a, xI i0, xR (a + 2), xI v5, xU]) rfl (e_iconst dX9_pageOf_41 (k4 rfl) (e_istore dX9_pageOf_42 (i := 4) rfl (L' := [xR a, xI i0, xR (a + 2), xI v5, xI 0]) rfl (e_fg [0] k)))) ?_
      refine lc_X9_pageOf_44 h_a i0 v5 R (fun z10 => ?_) 6000 0
      exact ev_ret (e_bipush dX9_pageOf_73 rfl (k4 rfl) (e_iret dX9_pageOf_75))
    · exact ev_ret (e_iconst dX9_pageOf_31 (k4 rfl) (e_iret dX9_pageOf_32))
  · exact ev_ret (e_bipush dX9_pageOf_18 rfl (k4 rfl) (e_iret dX9_pageOf_20))
def f_X9_effort (a : Nat) (i0 : Int) (R : xN) : Option (Int) :=
  if i0 = 4 then
  (f_X0_effortOf (a + 2) 0 R).bind (fun v2 =>
  (f_X0_effortOf (a + 2) 1 R).bind (fun v3 =>
  (f_X0_effortOf (a + 2) 2 R).bind (fun v4 =>
  (f_X0_effortOf (a + 2) 3 R).bind (fun v5 =>
  some (w4 ((w4 ((w4 (v2 + v3)) + v4)) + v5))))))
  else
  (f_X9_isIn i0 0 3 R).bind (fun v6 =>
  if v6 = true then
  (f_X0_effortOf (a + 2) i0 R).bind (fun v8 =>
  some v8)
  else
  some (-1))
set_option maxRecDepth 20000 in
set_option maxHeartbeats 4000000 in
theorem c_X9_effort {l : Launch} {g : xG} {d : Nat} {A : xA} {R : xN} {a : Nat} (h_a : sh 9 A a) (i0 : Int) : Ev l g (d + 2) mX9_effort 0 [xR a, xI i0] [] A R (fun v : Int => some (xI v)) (fun _ => R) (f_X9_effort a i0 R) := by
  rw [f_X9_effort]
  refine ev_st (pc' := 2) (L' := [xR a, xI i0]) (st' := [xI 4, xI i0]) (fun _ _ _ k => e_iload_n dX9_effort_0 rfl (i := 1) (x := i0) rfl (e_iconst dX9_effort_1 (k4 rfl) k)) ?_
  refine ev_br2 (P := i0 = 4) (pct := 5) (pcf := 53) (st' := []) (fun _ _ _ kt kf => e_cne dX9_effort_2 (tgt := 53) rfl kt kf) (fun h1 => ?_) (fun h1 => ?_)
  · refine ev_st (pc' := 13) (L' := [xR a, xI i0]) (st' := [xI 0, xR (a + 2)]) (fun _ _ _ k => e_aload_n dX9_effort_5 rfl (i := 0) (x := a) rfl (e_getr dX9_effort_6 flX9_10 (kd9_0 h_a) rfl (rf9_0_0 h_a) (e_getr dX9_effort_9 flX9_62 (kd9_1 h_a) rfl (rf9_1_0 h_a) (e_iconst dX9_effort_12 (k4 rfl) k)))) ?_
    refine ev_callV (As := [xI 0]) (st := []) (fun v2 => [xI v2]) dX9_effort_13 mlX9_414 (kd9_2 h_a) rfl rfl rfl rfl rfl rfl (c_X0_effortOf (d := d) (sb9_2_0 h_a) 0) (fun _ => trivial) (fun _ => rfl) (fun v2 => ?_)
    refine ev_st (pc' := 24) (L' := [xR a, xI i0]) (st' := [xI 1, xR (a + 2), xI v2]) (fun _ _ _ k => e_aload_n dX9_effort_16 rfl (i := 0) (x := a) rfl (e_getr dX9_effort_17 flX9_10 (kd9_0 h_a) rfl (rf9_0_0 h_a) (e_getr dX9_effort_20 flX9_62 (kd9_1 h_a) rfl (rf9_1_0 h_a) (e_iconst dX9_effort_23 (k4 rfl) k)))) ?_
    refine ev_callV (As := [xI 1]) (st := [xI v2]) (fun v3 => [xI v3, xI v2]) dX9_effort_24 mlX9_414 (kd9_2 h_a) rfl rfl rfl rfl rfl rfl (c_X0_effortOf (d := d) (sb9_2_0 h_a) 1) (fun _ => trivial) (fun _ => rfl) (fun v3 => ?_)
    refine ev_st (pc' := 36) (L' := [xR a, xI i0]) (st' := [xI 2, xR (a + 2), xI (w4 (v2 + v3))]) (fun _ _ _ k => e_iadd dX9_effort_27 (e_aload_n dX9_effort_28 rfl (i := 0) (x := a) rfl (e_getr dX9_effort_29 flX9_10 (kd9_0 h_a) rfl (rf9_0_0 h_a) (e_getr dX9_effort_32 flX9_62 (kd9_1 h_a) rfl (rf9_1_0 h_a) (e_iconst dX9_effort_35 (k4 rfl) k))))) ?_
    refine ev_callV (As := [xI 2]) (st := [xI (w4 (v2 + v3))]) (fun v4 => [xI v4, xI (w4 (v2 + v3))]) dX9_effort_36 mlX9_414 (kd9_2 h_a) rfl rfl rfl rfl rfl rfl (c_X0_effortOf (d := d) (sb9_2_0 h_a) 2) (fun _ => trivial) (fun _ => rfl) (fun v4 => ?_)
    refine ev_st (pc' := 48) (L' := [xR a, xI i0]) (st' := [xI 3, xR (a + 2), xI (w4 ((w4 (v2 + v3)) + v4))]) (fun _ _ _ k => e_iadd dX9_effort_39 (e_aload_n dX9_effort_40 rfl (i := 0) (x := a) rfl (e_getr dX9_effort_41 flX9_10 (kd9_0 h_a) rfl (rf9_0_0 h_a) (e_getr dX9_effort_44 flX9_62 (kd9_1 h_a) rfl (rf9_1_0 h_a) (e_iconst dX9_effort_47 (k4 rfl) k))))) ?_
    refine ev_callV (As := [xI 3]) (st := [xI (w4 ((w4 (v2 + v3)) + v4))]) (fun v5 => [xI v5, xI (w4 ((w4 (v2 + v3)) + v4))]) dX9_effort_48 mlX9_414 (kd9_2 h_a) rfl rfl rfl rfl rfl rfl (c_X0_effortOf (d := d) (sb9_2_0 h_a) 3) (fun _ => trivial) (fun _ => rfl) (fun v5 => ?_)
    exact ev_ret (e_iadd dX9_effort_51 (e_iret dX9_effort_52))
  · refine ev_st (pc' := 56) (L' := [xR a, xI i0]) (st' := [xI 3, xI 0, xI i0]) (fun _ _ _ k => e_iload_n dX9_effort_53 rfl (i := 1) (x := i0) rfl (e_iconst dX9_effort_54 (k4 rfl) (e_iconst dX9_effort_55 (k4 rfl) k))) ?_
    refine ev_callS (As := [xI i0, xI 0, xI 3]) (st := []) (fun v6 => [xI (xz v6)]) dX9_effort_56 mlX9_145 rfl rfl rfl rfl rfl rfl (c_X9_isIn (d := d + 1) i0 0 3) (fun _ => xz01 _) (fun _ => rfl) (fun v6 => ?_)
    refine ev_br2 (P := v6 = true) (pct := 62) (pcf := 76) (st' := []) (fun _ _ _ kt kf => e_ifeqz dX9_effort_59 (tgt := 76) rfl kt kf) (fun h7 => ?_) (fun h7 => ?_)
    · refine ev_st (pc' := 70) (L' := [xR a, xI i0]) (st' := [xI i0, xR (a + 2)]) (fun _ _ _ k => e_aload_n dX9_effort_62 rfl (i := 0) (x := a) rfl (e_getr dX9_effort_63 flX9_10 (kd9_0 h_a) rfl (rf9_0_0 h_a) (e_getr dX9_effort_66 flX9_62 (kd9_1 h_a) rfl (rf9_1_0 h_a) (e_iload_n dX9_effort_69 rfl (i := 1) (x := i0) rfl k)))) ?_
      refine ev_callV (As := [xI i0]) (st := []) (fun v8 => [xI v8]) dX9_effort_70 mlX9_414 (kd9_2 h_a) rfl rfl rfl rfl rfl rfl (c_X0_effortOf (d := d) (sb9_2_0 h_a) i0) (fun _ => trivial) (fun _ => rfl) (fun v8 => ?_)
      exact ev_ret (e_goto dX9_effort_73 (tgt := 77) rfl (e_iret dX9_effort_77))
    · exact ev_ret (e_iconst dX9_effort_76 (k4 rfl) (e_iret dX9_effort_77))
def lp_X9_rowOfFolds_6 (R : xN) : Nat → Int → Int → Int → (Int → Int → Int → Option (Int)) → Option (Int)
  | 0, _, _, _, _ => none
  | n + 1, y1, y2, y3, X =>
    if 1000 < y3 then
    X y1 y2 y3
    else
    if y2 ≤ 0 then
    X y1 y2 y3
    else
    xlet (w4 (y1 + (w4 ((w4 ((Int.tmod (w4 (y2 - 1)) 4) + 1)) * y3)))) (fun x3 =>
    xlet (w4 (Int.tdiv (w4 (y2 - 1)) 4)) (fun x4 =>
    xlet (w4 (y3 * 10)) (fun x5 =>
    lp_X9_rowOfFolds_6 R n x3 x4 x5 X)))
def f_X9_rowOfFolds (i0 : Int) (R : xN) : Option (Int) :=
  lp_X9_rowOfFolds_6 R 6000 0 i0 1 (fun z6 z7 z8 =>
  some z6)
set_option maxRecDepth 20000 in
set_option maxHeartbeats 4000000 in
theorem lc_X9_rowOfFolds_6 {l : Launch} {g : xG} {d : Nat} {A : xA}  (R : xN) {X : Int → Int → Int → Option (Int)} (hX : ∀ (y1 : Int) (y2 : Int) (y3 : Int), Ev l g (d) mX9_rowOfFolds 43 [xU, xI y1, xU, xU] [] A R (fun v : Int => some (xI v)) (fun _ => R) (X y1 y2 y3)) (n : Nat) (y1 : Int) (y2 : Int) (y3 : Int) : Ev l g (d) mX9_rowOfFolds 6 [xU, xI y1, xI y2, xI y3] [] A R (fun v : Int => some (xI v)) (fun _ => R) (lp_X9_rowOfFolds_6 R n y1 y2 y3 X) := by
  induction n generalizing y1 y2 y3 with
  | zero => exact ev_none
  | succ n ih =>
    rw [lp_X9_rowOfFolds_6]
    refine ev_st (pc' := 10) (L' := [xU, xI y1, xI y2, xI y3]) (st' := [xI 1000, xI y3]) (fun _ _ _ k => e_iload_n dX9_rowOfFolds_6 rfl (i := 3) (x := y3) rfl (e_sipush dX9_rowOfFolds_7 rfl (k4 rfl) k)) ?_
    refine ev_br2 (P := 1000 < y3) (pct := 43) (pcf := 13) (st' := []) (fun _ _ _ kt kf => e_cgt dX9_rowOfFolds_10 (tgt := 43) rfl kt kf) (fun h1 => ?_) (fun h1 => ?_)
    · refine ev_st (pc' := 43) (L' := [xU, xI y1, xU, xU]) (st' := []) (fun _ _ _ k => e_fg [2, 3] k) ?_
      exact hX y1 y2 y3
    · refine ev_st (pc' := 14) (L' := [xU, xI y1, xI y2, xI y3]) (st' := [xI y2]) (fun _ _ _ k => e_iload_n dX9_rowOfFolds_13 rfl (i := 2) (x := y2) rfl k) ?_
      refine ev_br2 (P := y2 ≤ 0) (pct := 43) (pcf := 17) (st' := []) (fun _ _ _ kt kf => e_ifle dX9_rowOfFolds_14 (tgt := 43) rfl kt kf) (fun h2 => ?_) (fun h2 => ?_)
      · refine ev_st (pc' := 43) (L' := [xU, xI y1, xU, xU]) (st' := []) (fun _ _ _ k => e_fg [2, 3] k) ?_
        exact hX y1 y2 y3
      · refine ev_st (pc' := 28) (L' := [xU, xI y1, xI y2, xI y3]) (st' := [xI (w4 (y1 + (w4 ((w4 ((Int.tmod (w4 (y2 - 1)) 4) + 1)) * y3))))]) (fun _ _ _ k => e_iload_n dX9_rowOfFolds_17 rfl (i := 1) (x := y1) rfl (e_iload_n dX9_rowOfFolds_18 rfl (i := 2) (x := y2) rfl (e_iconst dX9_rowOfFolds_19 (k4 rfl) (e_isub dX9_rowOfFolds_20 (e_iconst dX9_rowOfFolds_21 (k4 rfl) (e_irem dX9_rowOfFolds_22 (by decide) (e_iconst dX9_rowOfFolds_23 (k4 rfl) (e_iadd dX9_rowOfFolds_24 (e_iload_n dX9_rowOfFolds_25 rfl (i := 3) (x := y3) rfl (e_imul dX9_rowOfFolds_26 (e_iadd dX9_rowOfFolds_27 k))))))))))) ?_
        refine ev_leti (fun x3 ex3 => ?_)
        refine ev_st (pc' := 29) (L' := [xU, xI x3, xI y2, xI y3]) (st' := []) (fun _ _ _ k => e_istore_n dX9_rowOfFolds_28 rfl (i := 1) rfl (L' := [xU, xI x3, xI y2, xI y3]) rfl k) ?_
        refine ev_st (pc' := 34) (L' := [xU, xI x3, xI y2, xI y3]) (st' := [xI (w4 (Int.tdiv (w4 (y2 - 1)) 4))]) (fun _ _ _ k => e_iload_n dX9_rowOfFolds_29 rfl (i := 2) (x := y2) rfl (e_iconst dX9_rowOfFolds_30 (k4 rfl) (e_isub dX9_rowOfFolds_31 (e_iconst dX9_rowOfFolds_32 (k4 rfl) (e_idiv dX9_rowOfFolds_33 (by decide) k))))) ?_
        refine ev_leti (fun x4 ex4 => ?_)
        refine ev_st (pc' := 35) (L' := [xU, xI x3, xI x4, xI y3]) (st' := []) (fun _ _ _ k => e_istore_n dX9_rowOfFolds_34 rfl (i := 2) rfl (L' := [xU, xI x3, xI x4, xI y3]) rfl k) ?_
        refine ev_st (pc' := 39) (L' := [xU, xI x3, xI x4, xI y3]) (st' := [xI (w4 (y3 * 10))]) (fun _ _ _ k => e_iload_n dX9_rowOfFolds_35 rfl (i := 3) (x := y3) rfl (e_bipush dX9_rowOfFolds_36 rfl (k4 rfl) (e_imul dX9_rowOfFolds_38 k))) ?_
        refine ev_leti (fun x5 ex5 => ?_)
        refine ev_st (pc' := 40) (L' := [xU, xI x3, xI x4, xI x5]) (st' := []) (fun _ _ _ k => e_istore_n dX9_rowOfFolds_39 rfl (i := 3) rfl (L' := [xU, xI x3, xI x4, xI x5]) rfl k) ?_
        refine ev_st (pc' := 6) (L' := [xU, xI x3, xI x4, xI x5]) (st' := []) (fun _ _ _ k => e_goto dX9_rowOfFolds_40 (tgt := 6) rfl k) ?_
        exact ih x3 x4 x5
set_option maxRecDepth 20000 in
set_option maxHeartbeats 4000000 in
theorem c_X9_rowOfFolds {l : Launch} {g : xG} {d : Nat} {A : xA} {R : xN}  (i0 : Int) : Ev l g (d) mX9_rowOfFolds 0 [xI i0, xU, xU, xU] [] A R (fun v : Int => some (xI v)) (fun _ => R) (f_X9_rowOfFolds i0 R) := by
  rw [f_X9_rowOfFolds]
  refine ev_st (pc' := 6) (L' := [xU, xI 0, xI i0, xI 1]) (st' := []) (fun _ _ _ k => e_iconst dX9_rowOfFolds_0 (k4 rfl) (e_istore_n dX9_rowOfFolds_1 rfl (i := 1) rfl (L' := [xI i0, xI 0, xU, xU]) rfl (e_iload_n dX9_rowOfFolds_2 rfl (i := 0) (x := i0) rfl (e_istore_n dX9_rowOfFolds_3 rfl (i := 2) rfl (L' := [xI i0, xI 0, xI i0, xU]) rfl (e_iconst dX9_rowOfFolds_4 (k4 rfl) (e_istore_n dX9_rowOfFolds_5 rfl (i := 3) rfl (L' := [xI i0, xI 0, xI i0, xI 1]) rfl (e_fg [0] k))))))) ?_
  refine lc_X9_rowOfFolds_6 R (fun z6 z7 z8 => ?_) 6000 0 i0 1
  exact ev_ret (e_iload_n dX9_rowOfFolds_43 rfl (i := 1) (x := z6) rfl (e_iret dX9_rowOfFolds_44))
def f_X9_tryFolds (a : Nat) (i0 : Int) (R : xN) : Option (Bool × xN) :=
  (f_X3_foldBy (a + 311) (R (a + 3) 0) (R (a + 3) 1) i0 R).bind (fun v1 =>
  some (v1.1, v1.2))
set_option maxRecDepth 20000 in
set_option maxHeartbeats 4000000 in
theorem c_X9_tryFolds {l : Launch} {g : xG} {d : Nat} {A : xA} {R : xN} {a : Nat} (h_a : sh 9 A a) (i0 : Int) : Ev l g (d + 4) mX9_tryFolds 0 [xR a, xI i0] [] A R (fun v : Bool × xN => some (xI (xz v.1))) (fun v => v.2) (f_X9_tryFolds a i0 R) := by
  rw [f_X9_tryFolds]
  refine ev_st (pc' := 31) (L' := [xR a, xI i0]) (st' := [xI i0, xI (R (a + 3) 1), xI (R (a + 3) 0), xR (a + 311)]) (fun _ _ _ k => e_aload_n dX9_tryFolds_0 rfl (i := 0) (x := a) rfl (e_getr dX9_tryFolds_1 flX9_26 (kd9_0 h_a) rfl (rf9_0_2 h_a) (e_aload_n dX9_tryFolds_4 rfl (i := 0) (x := a) rfl (e_getr dX9_tryFolds_5 flX9_10 (kd9_0 h_a) rfl (rf9_0_0 h_a) (e_getr dX9_tryFolds_8 flX9_62 (kd9_1 h_a) rfl (rf9_1_0 h_a) (e_getr dX9_tryFolds_11 flX9_253 (kd9_2 h_a) rfl (rf9_2_0 h_a) (e_geti dX9_tryFolds_14 flX9_257 (kd9_3 h_a) (Or.inl rfl) (e_aload_n dX9_tryFolds_17 rfl (i := 0) (x := a) rfl (e_getr dX9_tryFolds_18 flX9_10 (kd9_0 h_a) rfl (rf9_0_0 h_a) (e_getr dX9_tryFolds_21 flX9_62 (kd9_1 h_a) rfl (rf9_1_0 h_a) (e_getr dX9_tryFolds_24 flX9_253 (kd9_2 h_a) rfl (rf9_2_0 h_a) (e_geti dX9_tryFolds_27 flX9_262 (kd9_3 h_a) (Or.inl rfl) (e_iload_n dX9_tryFolds_30 rfl (i := 1) (x := i0) rfl k))))))))))))) ?_
  refine ev_callV (As := [xI (R (a + 3) 0), xI (R (a + 3) 1), xI i0]) (st := []) (fun v1 => [xI (xz v1.1)]) dX9_tryFolds_31 mlX9_443 (kd9_311 h_a) rfl rfl rfl rfl rfl rfl (c_X3_foldBy (d := d) (sb9_311_3 h_a) (R (a + 3) 0) (R (a + 3) 1) i0) (fun _ => xz01 _) (fun _ => rfl) (fun v1 => ?_)
  exact ev_ret (e_iret dX9_tryFolds_34)
def lp_X9_fitting_23 (a : Nat) (p1 : Int) : Nat → Int → Int → Int → Int → xN → (Int → Int → Int → Int → xN → Option (Int × xN)) → Option (Int × xN)
  | 0, _, _, _, _, _, _ => none
  | n + 1, y2, y3, y4, y5, R, X =>
    if 341 ≤ y5 then
    X y2 y3 y4 y5 R
    else
    (f_X9_rowOfFolds y5 R).bind (fun v4 =>
    (f_X9_tryFolds a v4 R).bind (fun v5 =>
    if v5.1 = true then
    (f_X0_showsAllSights (a + 2) (a + 311) v5.2).bind (fun v7 =>
    if v7 = true then
    xlet (w4 (y2 + 1)) (fun x9 =>
    xlet (if y3 = (-9) then v4 else y3) (fun t10 =>
    xlet (w4 (y5 + 1)) (fun x11 =>
    lp_X9_fitting_23 a p1 n x9 t10 v4 x11 v5.2 X)))
    else
    xlet (w4 (y5 + 1)) (fun x12 =>
    lp_X9_fitting_23 a p1 n y2 y3 y4 x12 v5.2 X))
    else
    xlet (w4 (y5 + 1)) (fun x13 =>
    lp_X9_fitting_23 a p1 n y2 y3 y4 x13 v5.2 X)))
def f_X9_fitting (a : Nat) (i0 : Int) (R : xN) : Option (Int × xN) :=
  (f_X9_isIn i0 0 2 R).bind (fun v1 =>
  if v1 = true then
  lp_X9_fitting_23 a i0 6000 0 (-9) (-9) 0 R (fun z14 z15 z16 z17 R18 =>
  if i0 = 0 then
  some (z14, R18)
  else
  xlet (if i0 = 1 then z15 else z16) (fun t20 =>
  some (t20, R18)))
  else
  some ((-1), R))
set_option maxRecDepth 20000 in
set_option maxHeartbeats 4000000 in
theorem lc_X9_fitting_23 {l : Launch} {g : xG} {d : Nat} {A : xA} {a : Nat} (h_a : sh 9 A a) (p1 : Int) {X : Int → Int → Int → Int → xN → Option (Int × xN)} (hX : ∀ (y2 : Int) (y3 : Int) (y4 : Int) (y5 : Int) (R : xN), Ev l g (d + 5) mX9_fitting 90 [xU, xI p1, xI y2, xI y3, xI y4, xU, xU] [] A R (fun v : Int × xN => some (xI v.1)) (fun v => v.2) (X y2 y3 y4 y5 R)) (n : Nat) (y2 : Int) (y3 : Int) (y4 : Int) (y5 : Int) (R : xN) : Ev l g (d + 5) mX9_fitting 23 [xR a, xI p1, xI y2, xI y3, xI y4, xI y5, xU] [] A R (fun v : Int × xN => some (xI v.1)) (fun v => v.2) (lp_X9_fitting_23 a p1 n y2 y3 y4 y5 R X) := by
  induction n generalizing y2 y3 y4 y5 R with
  | zero => exact ev_none
  | succ n ih =>
    rw [lp_X9_fitting_23]
    refine ev_st (pc' := 28) (L' := [xR a, xI p1, xI y2, xI y3, xI y4, xI y5, xU]) (st' := [xI 341, xI y5]) (fun _ _ _ k => e_iload dX9_fitting_23 (i := 5) (x := y5) rfl (e_sipush dX9_fitting_25 rfl (k4 rfl) k)) ?_
    refine ev_br2 (P := 341 ≤ y5) (pct := 90) (pcf := 31) (st' := []) (fun _ _ _ kt kf => e_cge dX9_fitting_28 (tgt := 90) rfl kt kf) (fun h3 => ?_) (fun h3 => ?_)
    · refine ev_st (pc' := 90) (L' := [xU, xI p1, xI y2, xI y3, xI y4, xU, xU]) (st' := []) (fun _ _ _ k => e_fg [0, 5] k) ?_
      exact hX y2 y3 y4 y5 R
    · refine ev_st (pc' := 33) (L' := [xR a, xI p1, xI y2, xI y3, xI y4, xI y5, xU]) (st' := [xI y5]) (fun _ _ _ k => e_iload dX9_fitting_31 (i := 5) (x := y5) rfl k) ?_
      refine ev_callS (As := [xI y5]) (st := []) (fun v4 => [xI v4]) dX9_fitting_33 mlX9_417 rfl rfl rfl rfl rfl rfl (c_X9_rowOfFolds (d := d + 4) y5) (fun _ => trivial) (fun _ => rfl) (fun v4 => ?_)
      refine ev_st (pc' := 41) (L' := [xR a, xI p1, xI y2, xI y3, xI y4, xI y5, xI v4]) (st' := [xI v4, xR a]) (fun _ _ _ k => e_istore dX9_fitting_36 (i := 6) rfl (L' := [xR a, xI p1, xI y2, xI y3, xI y4, xI y5, xI v4]) rfl (e_aload_n dX9_fitting_38 rfl (i := 0) (x := a) rfl (e_iload dX9_fitting_39 (i := 6) (x := v4) rfl k))) ?_
      refine ev_callV (As := [xI v4]) (st := []) (fun v5 => [xI (xz v5.1)]) dX9_fitting_41 mlX9_420 (kd9_0 h_a) rfl rfl rfl rfl rfl rfl (c_X9_tryFolds (d := d) h_a v4) (fun _ => xz01 _) (fun _ => rfl) (fun v5 => ?_)
      refine ev_br2 (P := v5.1 = true) (pct := 47) (pcf := 84) (st' := []) (fun _ _ _ kt kf => e_ifeqz dX9_fitting_44 (tgt := 84) rfl kt kf) (fun h6 => ?_) (fun h6 => ?_)
      · refine ev_st (pc' := 58) (L' := [xR a, xI p1, xI y2, xI y3, xI y4, xI y5, xI v4]) (st' := [xR (a + 311), xR (a + 2)]) (fun _ _ _ k => e_aload_n dX9_fitting_47 rfl (i := 0) (x := a) rfl (e_getr dX9_fitting_48 flX9_10 (kd9_0 h_a) rfl (rf9_0_0 h_a) (e_getr dX9_fitting_51 flX9_62 (kd9_1 h_a) rfl (rf9_1_0 h_a) (e_aload_n dX9_fitting_54 rfl (i := 0) (x := a) rfl (e_getr dX9_fitting_55 flX9_26 (kd9_0 h_a) rfl (rf9_0_2 h_a) k))))) ?_
        refine ev_callV (As := [xR (a + 311)]) (st := []) (fun v7 => [xI (xz v7)]) dX9_fitting_58 mlX9_423 (kd9_2 h_a) rfl rfl rfl rfl rfl rfl (c_X0_showsAllSights (d := d) (sb9_2_0 h_a) (sb9_311_3 h_a)) (fun _ => xz01 _) (fun _ => rfl) (fun v7 => ?_)
        refine ev_br2 (P := v7 = true) (pct := 64) (pcf := 84) (st' := []) (fun _ _ _ kt kf => e_ifeqz dX9_fitting_61 (tgt := 84) rfl kt kf) (fun h8 => ?_) (fun h8 => ?_)
        · refine ev_letx (fun x9 ex9 => ?_)
          refine ev_st (pc' := 67) (L' := [xR a, xI p1, xI x9, xI y3, xI y4, xI y5, xI v4]) (st' := []) (fun _ _ _ k => e_iinc dX9_fitting_64 (i := 2) rfl (x := y2) rfl (y := x9) ex9 (L' := [xR a, xI p1, xI x9, xI y3, xI y4, xI y5, xI v4]) rfl k) ?_
          refine ev_st (pc' := 70) (L' := [xR a, xI p1, xI x9, xI y3, xI y4, xI y5, xI v4]) (st' := [xI (-9), xI y3]) (fun _ _ _ k => e_iload_n dX9_fitting_67 rfl (i := 3) (x := y3) rfl (e_bipush dX9_fitting_68 rfl (k4 rfl) k)) ?_
          refine ev_tern (P := y3 = (-9)) (a := v4) (b := y3) (pct := 73) (pcf := 78) (J := 79) (st' := []) (fun _ _ _ kt kf => e_cne dX9_fitting_70 (tgt := 78) rfl kt kf) (fun _ _ _ k => e_iload dX9_fitting_73 (i := 6) (x := v4) rfl (e_goto dX9_fitting_75 (tgt := 79) rfl k)) (fun _ _ _ k => e_iload_n dX9_fitting_78 rfl (i := 3) (x := y3) rfl k) (fun t10 et10 => ?_)
          refine ev_st (pc' := 84) (L' := [xR a, xI p1, xI x9, xI t10, xI v4, xI y5, xI v4]) (st' := []) (fun _ _ _ k => e_istore_n dX9_fitting_79 rfl (i := 3) rfl (L' := [xR a, xI p1, xI x9, xI t10, xI y4, xI y5, xI v4]) rfl (e_iload dX9_fitting_80 (i := 6) (x := v4) rfl (e_istore dX9_fitting_82 (i := 4) rfl (L' := [xR a, xI p1, xI x9, xI t10, xI v4, xI y5, xI v4]) rfl k))) ?_
          refine ev_letx (fun x11 ex11 => ?_)
          refine ev_st (pc' := 87) (L' := [xR a, xI p1, xI x9, xI t10, xI v4, xI x11, xI v4]) (st' := []) (fun _ _ _ k => e_iinc dX9_fitting_84 (i := 5) rfl (x := y5) rfl (y := x11) ex11 (L' := [xR a, xI p1, xI x9, xI t10, xI v4, xI x11, xI v4]) rfl k) ?_
          refine ev_st (pc' := 23) (L' := [xR a, xI p1, xI x9, xI t10, xI v4, xI x11, xU]) (st' := []) (fun _ _ _ k => e_goto dX9_fitting_87 (tgt := 23) rfl (e_fg [6] k)) ?_
          exact ih x9 t10 v4 x11 v5.2
        · refine ev_letx (fun x12 ex12 => ?_)
          refine ev_st (pc' := 87) (L' := [xR a, xI p1, xI y2, xI y3, xI y4, xI x12, xI v4]) (st' := []) (fun _ _ _ k => e_iinc dX9_fitting_84 (i := 5) rfl (x := y5) rfl (y := x12) ex12 (L' := [xR a, xI p1, xI y2, xI y3, xI y4, xI x12, xI v4]) rfl k) ?_
          refine ev_st (pc' := 23) (L' := [xR a, xI p1, xI y2, xI y3, xI y4, xI x12, xU]) (st' := []) (fun _ _ _ k => e_goto dX9_fitting_87 (tgt := 23) rfl (e_fg [6] k)) ?_
          exact ih y2 y3 y4 x12 v5.2
      · refine ev_letx (fun x13 ex13 => ?_)
        refine ev_st (pc' := 87) (L' := [xR a, xI p1, xI y2, xI y3, xI y4, xI x13, xI v4]) (st' := []) (fun _ _ _ k => e_iinc dX9_fitting_84 (i := 5) rfl (x := y5) rfl (y := x13) ex13 (L' := [xR a, xI p1, xI y2, xI y3, xI y4, xI x13, xI v4]) rfl k) ?_
        refine ev_st (pc' := 23) (L' := [xR a, xI p1, xI y2, xI y3, xI y4, xI x13, xU]) (st' := []) (fun _ _ _ k => e_goto dX9_fitting_87 (tgt := 23) rfl (e_fg [6] k)) ?_
        exact ih y2 y3 y4 x13 v5.2
set_option maxRecDepth 20000 in
set_option maxHeartbeats 4000000 in
theorem c_X9_fitting {l : Launch} {g : xG} {d : Nat} {A : xA} {R : xN} {a : Nat} (h_a : sh 9 A a) (i0 : Int) : Ev l g (d + 5) mX9_fitting 0 [xR a, xI i0, xU, xU, xU, xU, xU] [] A R (fun v : Int × xN => some (xI v.1)) (fun v => v.2) (f_X9_fitting a i0 R) := by
  rw [f_X9_fitting]
  refine ev_st (pc' := 3) (L' := [xR a, xI i0, xU, xU, xU, xU, xU]) (st' := [xI 2, xI 0, xI i0]) (fun _ _ _ k => e_iload_n dX9_fitting_0 rfl (i := 1) (x := i0) rfl (e_iconst dX9_fitting_1 (k4 rfl) (e_iconst dX9_fitting_2 (k4 rfl) k))) ?_
  refine ev_callS (As := [xI i0, xI 0, xI 2]) (st := []) (fun v1 => [xI (xz v1)]) dX9_fitting_3 mlX9_145 rfl rfl rfl rfl rfl rfl (c_X9_isIn (d := d + 4) i0 0 2) (fun _ => xz01 _) (fun _ => rfl) (fun v1 => ?_)
  refine ev_br2 (P := v1 = true) (pct := 11) (pcf := 9) (st' := []) (fun _ _ _ kt kf => e_ifnez dX9_fitting_6 (tgt := 11) rfl kt kf) (fun h2 => ?_) (fun h2 => ?_)
  · refine ev_st (pc' := 23) (L' := [xR a, xI i0, xI 0, xI (-9), xI (-9), xI 0, xU]) (st' := []) (fun _ _ _ k => e_iconst dX9_fitting_11 (k4 rfl) (e_istore_n dX9_fitting_12 rfl (i := 2) rfl (L' := [xR a, xI i0, xI 0, xU, xU, xU, xU]) rfl (e_bipush dX9_fitting_13 rfl (k4 rfl) (e_istore_n dX9_fitting_15 rfl (i := 3) rfl (L' := [xR a, xI i0, xI 0, xI (-9), xU, xU, xU]) rfl (e_bipush dX9_fitting_16 rfl (k4 rfl) (e_istore dX9_fitting_18 (i := 4) rfl (L' := [xR a, xI i0, xI 0, xI (-9), xI (-9), xU, xU]) rfl (e_iconst dX9_fitting_20 (k4 rfl) (e_istore dX9_fitting_21 (i := 5) rfl (L' := [xR a, xI i0, xI 0, xI (-9), xI (-9), xI 0, xU]) rfl k)))))))) ?_
    refine lc_X9_fitting_23 h_a i0 (fun z14 z15 z16 z17 R18 => ?_) 6000 0 (-9) (-9) 0 R
    refine ev_st (pc' := 91) (L' := [xU, xI i0, xI z14, xI z15, xI z16, xU, xU]) (st' := [xI i0]) (fun _ _ _ k => e_iload_n dX9_fitting_90 rfl (i := 1) (x := i0) rfl k) ?_
    refine ev_br2 (P := i0 = 0) (pct := 94) (pcf := 96) (st' := []) (fun _ _ _ kt kf => e_ifne dX9_fitting_91 (tgt := 96) rfl kt kf) (fun h19 => ?_) (fun h19 => ?_)
    · exact ev_ret (e_iload_n dX9_fitting_94 rfl (i := 2) (x := z14) rfl (e_iret dX9_fitting_95))
    · refine ev_st (pc' := 98) (L' := [xU, xI i0, xI z14, xI z15, xI z16, xU, xU]) (st' := [xI 1, xI i0]) (fun _ _ _ k => e_iload_n dX9_fitting_96 rfl (i := 1) (x := i0) rfl (e_iconst dX9_fitting_97 (k4 rfl) k)) ?_
      refine ev_tern (P := i0 = 1) (a := z15) (b := z16) (pct := 101) (pcf := 105) (J := 107) (st' := []) (fun _ _ _ kt kf => e_cne dX9_fitting_98 (tgt := 105) rfl kt kf) (fun _ _ _ k => e_iload_n dX9_fitting_101 rfl (i := 3) (x := z15) rfl (e_goto dX9_fitting_102 (tgt := 107) rfl k)) (fun _ _ _ k => e_iload dX9_fitting_105 (i := 4) (x := z16) rfl k) (fun t20 et20 => ?_)
      exact ev_ret (e_iret dX9_fitting_107)
  · exact ev_ret (e_iconst dX9_fitting_9 (k4 rfl) (e_iret dX9_fitting_10))
def f_X9_readsBy (a : Nat) (i0 : Int) (R : xN) : Option (Int × xN) :=
  (f_X9_tryFolds a i0 R).bind (fun v1 =>
  if v1.1 = true then
  (f_X0_pagesInOrder (a + 2) (a + 311) v1.2).bind (fun v3 =>
  some (v3, v1.2))
  else
  some ((-1), v1.2))
set_option maxRecDepth 20000 in
set_option maxHeartbeats 4000000 in
theorem c_X9_readsBy {l : Launch} {g : xG} {d : Nat} {A : xA} {R : xN} {a : Nat} (h_a : sh 9 A a) (i0 : Int) : Ev l g (d + 5) mX9_readsBy 0 [xR a, xI i0] [] A R (fun v : Int × xN => some (xI v.1)) (fun v => v.2) (f_X9_readsBy a i0 R) := by
  rw [f_X9_readsBy]
  refine ev_st (pc' := 2) (L' := [xR a, xI i0]) (st' := [xI i0, xR a]) (fun _ _ _ k => e_aload_n dX9_readsBy_0 rfl (i := 0) (x := a) rfl (e_iload_n dX9_readsBy_1 rfl (i := 1) (x := i0) rfl k)) ?_
  refine ev_callV (As := [xI i0]) (st := []) (fun v1 => [xI (xz v1.1)]) dX9_readsBy_2 mlX9_420 (kd9_0 h_a) rfl rfl rfl rfl rfl rfl (c_X9_tryFolds (d := d) h_a i0) (fun _ => xz01 _) (fun _ => rfl) (fun v1 => ?_)
  refine ev_br2 (P := v1.1 = true) (pct := 8) (pcf := 25) (st' := []) (fun _ _ _ kt kf => e_ifeqz dX9_readsBy_5 (tgt := 25) rfl kt kf) (fun h2 => ?_) (fun h2 => ?_)
  · refine ev_st (pc' := 19) (L' := [xR a, xI i0]) (st' := [xR (a + 311), xR (a + 2)]) (fun _ _ _ k => e_aload_n dX9_readsBy_8 rfl (i := 0) (x := a) rfl (e_getr dX9_readsBy_9 flX9_10 (kd9_0 h_a) rfl (rf9_0_0 h_a) (e_getr dX9_readsBy_12 flX9_62 (kd9_1 h_a) rfl (rf9_1_0 h_a) (e_aload_n dX9_readsBy_15 rfl (i := 0) (x := a) rfl (e_getr dX9_readsBy_16 flX9_26 (kd9_0 h_a) rfl (rf9_0_2 h_a) k))))) ?_
    refine ev_callV (As := [xR (a + 311)]) (st := []) (fun v3 => [xI v3]) dX9_readsBy_19 mlX9_427 (kd9_2 h_a) rfl rfl rfl rfl rfl rfl (c_X0_pagesInOrder (d := d) (sb9_2_0 h_a) (sb9_311_3 h_a)) (fun _ => trivial) (fun _ => rfl) (fun v3 => ?_)
    exact ev_ret (e_goto dX9_readsBy_22 (tgt := 26) rfl (e_iret dX9_readsBy_26))
  · exact ev_ret (e_iconst dX9_readsBy_25 (k4 rfl) (e_iret dX9_readsBy_26))
def f_X9_cutsFor (a : Nat) (i0 : Int) (R : xN) : Option (Int × xN) :=
  (f_X9_tryFolds a i0 R).bind (fun v1 =>
  if v1.1 = true then
  (f_X0_edgesToCut (a + 2) (a + 311) v1.2).bind (fun v3 =>
  some (v3, v1.2))
  else
  some ((-1), v1.2))
set_option maxRecDepth 20000 in
set_option maxHeartbeats 4000000 in
theorem c_X9_cutsFor {l : Launch} {g : xG} {d : Nat} {A : xA} {R : xN} {a : Nat} (h_a : sh 9 A a) (i0 : Int) : Ev l g (d + 5) mX9_cutsFor 0 [xR a, xI i0] [] A R (fun v : Int × xN => some (xI v.1)) (fun v => v.2) (f_X9_cutsFor a i0 R) := by
  rw [f_X9_cutsFor]
  refine ev_st (pc' := 2) (L' := [xR a, xI i0]) (st' := [xI i0, xR a]) (fun _ _ _ k => e_aload_n dX9_cutsFor_0 rfl (i := 0) (x := a) rfl (e_iload_n dX9_cutsFor_1 rfl (i := 1) (x := i0) rfl k)) ?_
  refine ev_callV (As := [xI i0]) (st := []) (fun v1 => [xI (xz v1.1)]) dX9_cutsFor_2 mlX9_420 (kd9_0 h_a) rfl rfl rfl rfl rfl rfl (c_X9_tryFolds (d := d) h_a i0) (fun _ => xz01 _) (fun _ => rfl) (fun v1 => ?_)
  refine ev_br2 (P := v1.1 = true) (pct := 8) (pcf := 25) (st' := []) (fun _ _ _ kt kf => e_ifeqz dX9_cutsFor_5 (tgt := 25) rfl kt kf) (fun h2 => ?_) (fun h2 => ?_)
  · refine ev_st (pc' := 19) (L' := [xR a, xI i0]) (st' := [xR (a + 311), xR (a + 2)]) (fun _ _ _ k => e_aload_n dX9_cutsFor_8 rfl (i := 0) (x := a) rfl (e_getr dX9_cutsFor_9 flX9_10 (kd9_0 h_a) rfl (rf9_0_0 h_a) (e_getr dX9_cutsFor_12 flX9_62 (kd9_1 h_a) rfl (rf9_1_0 h_a) (e_aload_n dX9_cutsFor_15 rfl (i := 0) (x := a) rfl (e_getr dX9_cutsFor_16 flX9_26 (kd9_0 h_a) rfl (rf9_0_2 h_a) k))))) ?_
    refine ev_callV (As := [xR (a + 311)]) (st := []) (fun v3 => [xI v3]) dX9_cutsFor_19 mlX9_431 (kd9_2 h_a) rfl rfl rfl rfl rfl rfl (c_X0_edgesToCut (d := d + 1) (sb9_2_0 h_a) (sb9_311_3 h_a)) (fun _ => trivial) (fun _ => rfl) (fun v3 => ?_)
    exact ev_ret (e_goto dX9_cutsFor_22 (tgt := 26) rfl (e_iret dX9_cutsFor_26))
  · exact ev_ret (e_iconst dX9_cutsFor_25 (k4 rfl) (e_iret dX9_cutsFor_26))
def lp_X9_bestFolds_7 (a : Nat) : Nat → Int → Int → Int → xN → (Int → Int → Int → xN → Option (Int × xN)) → Option (Int × xN)
  | 0, _, _, _, _, _ => none
  | n + 1, y1, y2, y3, R, X =>
    if 341 ≤ y3 then
    X y1 y2 y3 R
    else
    (f_X9_rowOfFolds y3 R).bind (fun v2 =>
    (f_X9_tryFolds a v2 R).bind (fun v3 =>
    if v3.1 = true then
    (f_X0_edgesToCut (a + 2) (a + 311) v3.2).bind (fun v5 =>
    (f_J6_bitCount_0f7a4 v5 v3.2).bind (fun v6 =>
    (f_X0_pagesInOrder (a + 2) (a + 311) v3.2).bind (fun v7 =>
    xlet (w4 ((w4 (v6 * 33)) - v7)) (fun x8 =>
    if y1 = (-9) then
    xlet (w4 (y3 + 1)) (fun x10 =>
    lp_X9_bestFolds_7 a n v2 x8 x10 v3.2 X)
    else
    if y2 ≤ x8 then
    xlet (w4 (y3 + 1)) (fun x12 =>
    lp_X9_bestFolds_7 a n y1 y2 x12 v3.2 X)
    else
    xlet (w4 (y3 + 1)) (fun x13 =>
    lp_X9_bestFolds_7 a n v2 x8 x13 v3.2 X)))))
    else
    xlet (w4 (y3 + 1)) (fun x14 =>
    lp_X9_bestFolds_7 a n y1 y2 x14 v3.2 X)))
def f_X9_bestFolds (a : Nat) (R : xN) : Option (Int × xN) :=
  lp_X9_bestFolds_7 a 6000 (-9) 0 0 R (fun z15 z16 z17 R18 =>
  some (z15, R18))
set_option maxRecDepth 20000 in
set_option maxHeartbeats 4000000 in
theorem lc_X9_bestFolds_7 {l : Launch} {g : xG} {d : Nat} {A : xA} {a : Nat} (h_a : sh 9 A a)  {X : Int → Int → Int → xN → Option (Int × xN)} (hX : ∀ (y1 : Int) (y2 : Int) (y3 : Int) (R : xN), Ev l g (d + 5) mX9_bestFolds 90 [xU, xI y1, xU, xU, xU, xU] [] A R (fun v : Int × xN => some (xI v.1)) (fun v => v.2) (X y1 y2 y3 R)) (n : Nat) (y1 : Int) (y2 : Int) (y3 : Int) (R : xN) : Ev l g (d + 5) mX9_bestFolds 7 [xR a, xI y1, xI y2, xI y3, xU, xU] [] A R (fun v : Int × xN => some (xI v.1)) (fun v => v.2) (lp_X9_bestFolds_7 a n y1 y2 y3 R X) := by
  induction n generalizing y1 y2 y3 R with
  | zero => exact ev_none
  | succ n ih =>
    rw [lp_X9_bestFolds_7]
    refine ev_st (pc' := 11) (L' := [xR a, xI y1, xI y2, xI y3, xU, xU]) (st' := [xI 341, xI y3]) (fun _ _ _ k => e_iload_n dX9_bestFolds_7 rfl (i := 3) (x := y3) rfl (e_sipush dX9_bestFolds_8 rfl (k4 rfl) k)) ?_
    refine ev_br2 (P := 341 ≤ y3) (pct := 90) (pcf := 14) (st' := []) (fun _ _ _ kt kf => e_cge dX9_bestFolds_11 (tgt := 90) rfl kt kf) (fun h1 => ?_) (fun h1 => ?_)
    · refine ev_st (pc' := 90) (L' := [xU, xI y1, xU, xU, xU, xU]) (st' := []) (fun _ _ _ k => e_fg [0, 2, 3] k) ?_
      exact hX y1 y2 y3 R
    · refine ev_st (pc' := 15) (L' := [xR a, xI y1, xI y2, xI y3, xU, xU]) (st' := [xI y3]) (fun _ _ _ k => e_iload_n dX9_bestFolds_14 rfl (i := 3) (x := y3) rfl k) ?_
      refine ev_callS (As := [xI y3]) (st := []) (fun v2 => [xI v2]) dX9_bestFolds_15 mlX9_417 rfl rfl rfl rfl rfl rfl (c_X9_rowOfFolds (d := d + 4) y3) (fun _ => trivial) (fun _ => rfl) (fun v2 => ?_)
      refine ev_st (pc' := 23) (L' := [xR a, xI y1, xI y2, xI y3, xI v2, xU]) (st' := [xI v2, xR a]) (fun _ _ _ k => e_istore dX9_bestFolds_18 (i := 4) rfl (L' := [xR a, xI y1, xI y2, xI y3, xI v2, xU]) rfl (e_aload_n dX9_bestFolds_20 rfl (i := 0) (x := a) rfl (e_iload dX9_bestFolds_21 (i := 4) (x := v2) rfl k))) ?_
      refine ev_callV (As := [xI v2]) (st := []) (fun v3 => [xI (xz v3.1)]) dX9_bestFolds_23 mlX9_420 (kd9_0 h_a) rfl rfl rfl rfl rfl rfl (c_X9_tryFolds (d := d) h_a v2) (fun _ => xz01 _) (fun _ => rfl) (fun v3 => ?_)
      refine ev_br2 (P := v3.1 = true) (pct := 29) (pcf := 84) (st' := []) (fun _ _ _ kt kf => e_ifeqz dX9_bestFolds_26 (tgt := 84) rfl kt kf) (fun h4 => ?_) (fun h4 => ?_)
      · refine ev_st (pc' := 40) (L' := [xR a, xI y1, xI y2, xI y3, xI v2, xU]) (st' := [xR (a + 311), xR (a + 2)]) (fun _ _ _ k => e_aload_n dX9_bestFolds_29 rfl (i := 0) (x := a) rfl (e_getr dX9_bestFolds_30 flX9_10 (kd9_0 h_a) rfl (rf9_0_0 h_a) (e_getr dX9_bestFolds_33 flX9_62 (kd9_1 h_a) rfl (rf9_1_0 h_a) (e_aload_n dX9_bestFolds_36 rfl (i := 0) (x := a) rfl (e_getr dX9_bestFolds_37 flX9_26 (kd9_0 h_a) rfl (rf9_0_2 h_a) k))))) ?_
        refine ev_callV (As := [xR (a + 311)]) (st := []) (fun v5 => [xI v5]) dX9_bestFolds_40 mlX9_431 (kd9_2 h_a) rfl rfl rfl rfl rfl rfl (c_X0_edgesToCut (d := d + 1) (sb9_2_0 h_a) (sb9_311_3 h_a)) (fun _ => trivial) (fun _ => rfl) (fun v5 => ?_)
        refine ev_callS (As := [xI v5]) (st := []) (fun v6 => [xI v6]) dX9_bestFolds_43 mlX9_290 rfl rfl rfl rfl rfl rfl (c_J6_bitCount_0f7a4 (d := d + 4) v5) (fun _ => trivial) (fun _ => rfl) (fun v6 => ?_)
        refine ev_st (pc' := 60) (L' := [xR a, xI y1, xI y2, xI y3, xI v2, xU]) (st' := [xR (a + 311), xR (a + 2), xI (w4 (v6 * 33))]) (fun _ _ _ k => e_bipush dX9_bestFolds_46 rfl (k4 rfl) (e_imul dX9_bestFolds_48 (e_aload_n dX9_bestFolds_49 rfl (i := 0) (x := a) rfl (e_getr dX9_bestFolds_50 flX9_10 (kd9_0 h_a) rfl (rf9_0_0 h_a) (e_getr dX9_bestFolds_53 flX9_62 (kd9_1 h_a) rfl (rf9_1_0 h_a) (e_aload_n dX9_bestFolds_56 rfl (i := 0) (x := a) rfl (e_getr dX9_bestFolds_57 flX9_26 (kd9_0 h_a) rfl (rf9_0_2 h_a) k))))))) ?_
        refine ev_callV (As := [xR (a + 311)]) (st := [xI (w4 (v6 * 33))]) (fun v7 => [xI v7, xI (w4 (v6 * 33))]) dX9_bestFolds_60 mlX9_427 (kd9_2 h_a) rfl rfl rfl rfl rfl rfl (c_X0_pagesInOrder (d := d) (sb9_2_0 h_a) (sb9_311_3 h_a)) (fun _ => trivial) (fun _ => rfl) (fun v7 => ?_)
        refine ev_st (pc' := 64) (L' := [xR a, xI y1, xI y2, xI y3, xI v2, xU]) (st' := [xI (w4 ((w4 (v6 * 33)) - v7))]) (fun _ _ _ k => e_isub dX9_bestFolds_63 k) ?_
        refine ev_leti (fun x8 ex8 => ?_)
        refine ev_st (pc' := 66) (L' := [xR a, xI y1, xI y2, xI y3, xI v2, xI x8]) (st' := []) (fun _ _ _ k => e_istore dX9_bestFolds_64 (i := 5) rfl (L' := [xR a, xI y1, xI y2, xI y3, xI v2, xI x8]) rfl k) ?_
        refine ev_st (pc' := 69) (L' := [xR a, xI y1, xI y2, xI y3, xI v2, xI x8]) (st' := [xI (-9), xI y1]) (fun _ _ _ k => e_iload_n dX9_bestFolds_66 rfl (i := 1) (x := y1) rfl (e_bipush dX9_bestFolds_67 rfl (k4 rfl) k)) ?_
        refine ev_br2 (P := y1 = (-9)) (pct := 78) (pcf := 72) (st' := []) (fun _ _ _ kt kf => e_ceq dX9_bestFolds_69 (tgt := 78) rfl kt kf) (fun h9 => ?_) (fun h9 => ?_)
        · refine ev_st (pc' := 84) (L' := [xR a, xI v2, xI x8, xI y3, xI v2, xI x8]) (st' := []) (fun _ _ _ k => e_iload dX9_bestFolds_78 (i := 4) (x := v2) rfl (e_istore_n dX9_bestFolds_80 rfl (i := 1) rfl (L' := [xR a, xI v2, xI y2, xI y3, xI v2, xI x8]) rfl (e_iload dX9_bestFolds_81 (i := 5) (x := x8) rfl (e_istore_n dX9_bestFolds_83 rfl (i := 2) rfl (L' := [xR a, xI v2, xI x8, xI y3, xI v2, xI x8]) rfl k)))) ?_
          refine ev_letx (fun x10 ex10 => ?_)
          refine ev_st (pc' := 87) (L' := [xR a, xI v2, xI x8, xI x10, xI v2, xI x8]) (st' := []) (fun _ _ _ k => e_iinc dX9_bestFolds_84 (i := 3) rfl (x := y3) rfl (y := x10) ex10 (L' := [xR a, xI v2, xI x8, xI x10, xI v2, xI x8]) rfl k) ?_
          refine ev_st (pc' := 7) (L' := [xR a, xI v2, xI x8, xI x10, xU, xU]) (st' := []) (fun _ _ _ k => e_goto dX9_bestFolds_87 (tgt := 7) rfl (e_fg [4, 5] k)) ?_
          exact ih v2 x8 x10 v3.2
        · refine ev_st (pc' := 75) (L' := [xR a, xI y1, xI y2, xI y3, xI v2, xI x8]) (st' := [xI y2, xI x8]) (fun _ _ _ k => e_iload dX9_bestFolds_72 (i := 5) (x := x8) rfl (e_iload_n dX9_bestFolds_74 rfl (i := 2) (x := y2) rfl k)) ?_
          refine ev_br2 (P := y2 ≤ x8) (pct := 84) (pcf := 78) (st' := []) (fun _ _ _ kt kf => e_cge dX9_bestFolds_75 (tgt := 84) rfl kt kf) (fun h11 => ?_) (fun h11 => ?_)
          · refine ev_letx (fun x12 ex12 => ?_)
            refine ev_st (pc' := 87) (L' := [xR a, xI y1, xI y2, xI x12, xI v2, xI x8]) (st' := []) (fun _ _ _ k => e_iinc dX9_bestFolds_84 (i := 3) rfl (x := y3) rfl (y := x12) ex12 (L' := [xR a, xI y1, xI y2, xI x12, xI v2, xI x8]) rfl k) ?_
            refine ev_st (pc' := 7) (L' := [xR a, xI y1, xI y2, xI x12, xU, xU]) (st' := []) (fun _ _ _ k => e_goto dX9_bestFolds_87 (tgt := 7) rfl (e_fg [4, 5] k)) ?_
            exact ih y1 y2 x12 v3.2
          · refine ev_st (pc' := 84) (L' := [xR a, xI v2, xI x8, xI y3, xI v2, xI x8]) (st' := []) (fun _ _ _ k => e_iload dX9_bestFolds_78 (i := 4) (x := v2) rfl (e_istore_n dX9_bestFolds_80 rfl (i := 1) rfl (L' := [xR a, xI v2, xI y2, xI y3, xI v2, xI x8]) rfl (e_iload dX9_bestFolds_81 (i := 5) (x := x8) rfl (e_istore_n dX9_bestFolds_83 rfl (i := 2) rfl (L' := [xR a, xI v2, xI x8, xI y3, xI v2, xI x8]) rfl k)))) ?_
            refine ev_letx (fun x13 ex13 => ?_)
            refine ev_st (pc' := 87) (L' := [xR a, xI v2, xI x8, xI x13, xI v2, xI x8]) (st' := []) (fun _ _ _ k => e_iinc dX9_bestFolds_84 (i := 3) rfl (x := y3) rfl (y := x13) ex13 (L' := [xR a, xI v2, xI x8, xI x13, xI v2, xI x8]) rfl k) ?_
            refine ev_st (pc' := 7) (L' := [xR a, xI v2, xI x8, xI x13, xU, xU]) (st' := []) (fun _ _ _ k => e_goto dX9_bestFolds_87 (tgt := 7) rfl (e_fg [4, 5] k)) ?_
            exact ih v2 x8 x13 v3.2
      · refine ev_letx (fun x14 ex14 => ?_)
        refine ev_st (pc' := 87) (L' := [xR a, xI y1, xI y2, xI x14, xI v2, xU]) (st' := []) (fun _ _ _ k => e_iinc dX9_bestFolds_84 (i := 3) rfl (x := y3) rfl (y := x14) ex14 (L' := [xR a, xI y1, xI y2, xI x14, xI v2, xU]) rfl k) ?_
        refine ev_st (pc' := 7) (L' := [xR a, xI y1, xI y2, xI x14, xU, xU]) (st' := []) (fun _ _ _ k => e_goto dX9_bestFolds_87 (tgt := 7) rfl (e_fg [4] k)) ?_
        exact ih y1 y2 x14 v3.2
set_option maxRecDepth 20000 in
set_option maxHeartbeats 4000000 in
theorem c_X9_bestFolds {l : Launch} {g : xG} {d : Nat} {A : xA} {R : xN} {a : Nat} (h_a : sh 9 A a)  : Ev l g (d + 5) mX9_bestFolds 0 [xR a, xU, xU, xU, xU, xU] [] A R (fun v : Int × xN => some (xI v.1)) (fun v => v.2) (f_X9_bestFolds a R) := by
  rw [f_X9_bestFolds]
  refine ev_st (pc' := 7) (L' := [xR a, xI (-9), xI 0, xI 0, xU, xU]) (st' := []) (fun _ _ _ k => e_bipush dX9_bestFolds_0 rfl (k4 rfl) (e_istore_n dX9_bestFolds_2 rfl (i := 1) rfl (L' := [xR a, xI (-9), xU, xU, xU, xU]) rfl (e_iconst dX9_bestFolds_3 (k4 rfl) (e_istore_n dX9_bestFolds_4 rfl (i := 2) rfl (L' := [xR a, xI (-9), xI 0, xU, xU, xU]) rfl (e_iconst dX9_bestFolds_5 (k4 rfl) (e_istore_n dX9_bestFolds_6 rfl (i := 3) rfl (L' := [xR a, xI (-9), xI 0, xI 0, xU, xU]) rfl k)))))) ?_
  refine lc_X9_bestFolds_7 h_a (fun z15 z16 z17 R18 => ?_) 6000 (-9) 0 0 R
  exact ev_ret (e_iload_n dX9_bestFolds_90 rfl (i := 1) (x := z15) rfl (e_iret dX9_bestFolds_91))
