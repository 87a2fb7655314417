def f_X9_isError (i0 : Int) (R : xN) : Option (Bool) :=
  (f_X9_isIn i0 (-3) (-1) R).bind (fun v1 =>
  some v1)
set_option maxRecDepth 20000 in
set_option maxHeartbeats 4000000 in
theorem c_X9_isError {l : Launch} {g : xG} {d : Nat} {A : xA} {R : xN}  (i0 : Int) : Ev l g (d + 1) mX9_isError 0 [xI i0] [] A R (fun v : Bool => some (xI (xz v))) (fun _ => R) (f_X9_isError i0 R) := by
  rw [f_X9_isError]
  refine ev_st (pc' := 4) (L' := [xI i0]) (st' := [xI (-1), xI (-3), xI i0]) (fun _ _ _ k => e_iload_n dX9_isError_0 rfl (i := 0) (x := i0) rfl (e_bipush dX9_isError_1 rfl (k4 rfl) (e_iconst dX9_isError_3 (k4 rfl) k))) ?_
  refine ev_callS (As := [xI i0, xI (-3), xI (-1)]) (st := []) (fun v1 => [xI (xz v1)]) dX9_isError_4 mlX9_145 rfl rfl rfl rfl rfl rfl (c_X9_isIn (d := d) i0 (-3) (-1)) (fun _ => xz01 _) (fun _ => rfl) (fun v1 => ?_)
  exact ev_ret (e_iret dX9_isError_7)
def lp_X1_dropOldest_9 (a : Nat) (q1 : Nat) : Nat → Int → xN → (Int → xN → Option (xN)) → Option (xN)
  | 0, _, _, _ => none
  | n + 1, y2, R, X =>
    if 5 ≤ y2 then
    X y2 R
    else
    if 0 ≤ (w4 (y2 + 1)) ∧ (w4 (y2 + 1)) < 6 ∧ xsta a (R (a + 1) ((w4 (y2 + 1))).toNat) = true then
    if 0 ≤ y2 ∧ y2 < 6 then
    xlet (xup R (a + 1) (y2).toNat (((R (a + 1) ((w4 (y2 + 1))).toNat).toNat : Nat) : Int)) (fun R5 =>
    xlet (w4 (y2 + 1)) (fun x6 =>
    lp_X1_dropOldest_9 a q1 n x6 R5 X))
    else none
    else none
def f_X1_dropOldest (a : Nat) (R : xN) : Option (xN) :=
  if 0 ≤ (0 : Int) ∧ (0 : Int) < 6 ∧ xsta a (R (a + 1) 0) = true then
  lp_X1_dropOldest_9 a (R (a + 1) 0).toNat 6000 0 R (fun z7 R8 =>
  xlet (xup R8 (a + 1) 5 (((R (a + 1) 0).toNat : Nat) : Int)) (fun R9 =>
  some R9))
  else none
set_option maxRecDepth 20000 in
set_option maxHeartbeats 4000000 in
theorem lc_X1_dropOldest_9 {l : Launch} {g : xG} {d : Nat} {A : xA} {a : Nat} (h_a : sh 1 A a) (q1 : Nat) {X : Int → xN → Option (xN)} (hX : ∀ (y2 : Int) (R : xN), Ev l g (d) mX1_dropOldest 34 [xR a, xR q1, xU] [] A R (fun _ : xN => none) (fun v => v) (X y2 R)) (n : Nat) (y2 : Int) (R : xN) : Ev l g (d) mX1_dropOldest 9 [xR a, xR q1, xI y2] [] A R (fun _ : xN => none) (fun v => v) (lp_X1_dropOldest_9 a q1 n y2 R X) := by
  induction n generalizing y2 R with
  | zero => exact ev_none
  | succ n ih =>
    rw [lp_X1_dropOldest_9]
    refine ev_st (pc' := 11) (L' := [xR a, xR q1, xI y2]) (st' := [xI 5, xI y2]) (fun _ _ _ k => e_iload_n dX1_dropOldest_9 rfl (i := 2) (x := y2) rfl (e_iconst dX1_dropOldest_10 (k4 rfl) k)) ?_
    refine ev_br2 (P := 5 ≤ y2) (pct := 34) (pcf := 14) (st' := []) (fun _ _ _ kt kf => e_cge dX1_dropOldest_11 (tgt := 34) rfl kt kf) (fun h2 => ?_) (fun h2 => ?_)
    · refine ev_st (pc' := 34) (L' := [xR a, xR q1, xU]) (st' := []) (fun _ _ _ k => e_fg [2] k) ?_
      exact hX y2 R
    · refine ev_st (pc' := 26) (L' := [xR a, xR q1, xI y2]) (st' := [xI (w4 (y2 + 1)), xR (a + 1), xI y2, xR (a + 1)]) (fun _ _ _ k => e_aload_n dX1_dropOldest_14 rfl (i := 0) (x := a) rfl (e_getr dX1_dropOldest_15 flX1_12 (kd1_0 h_a) rfl (rf1_0_0 h_a) (e_iload_n dX1_dropOldest_18 rfl (i := 2) (x := y2) rfl (e_aload_n dX1_dropOldest_19 rfl (i := 0) (x := a) rfl (e_getr dX1_dropOldest_20 flX1_12 (kd1_0 h_a) rfl (rf1_0_0 h_a) (e_iload_n dX1_dropOldest_23 rfl (i := 2) (x := y2) rfl (e_iconst dX1_dropOldest_24 (k4 rfl) (e_iadd dX1_dropOldest_25 k)))))))) ?_
      refine ev_chk (fun h3 => ?_)
      refine ev_st (pc' := 27) (L' := [xR a, xR q1, xI y2]) (st' := [xR (R (a + 1) ((w4 (y2 + 1))).toNat).toNat, xI y2, xR (a + 1)]) (fun _ _ _ k => e_aald3 dX1_dropOldest_26 (kd1_1 h_a) h3.1 h3.2.1 (xsta_0 h3.2.2) k) ?_
      refine ev_chk (fun h4 => ?_)
      refine ev_st (pc' := 28) (L' := [xR a, xR q1, xI y2]) (st' := []) (fun _ _ _ k => e_aast3 dX1_dropOldest_27 (kd1_1 h_a) (kd8_0 (xsta_sh h_a h3.2.2)) h4.1 h4.2 (xsta_le h3.2.2) k) ?_
      refine ev_letR (fun R5 eR5 => ?_)
      refine ev_letx (fun x6 ex6 => ?_)
      refine ev_st (pc' := 31) (L' := [xR a, xR q1, xI x6]) (st' := []) (fun _ _ _ k => e_iinc dX1_dropOldest_28 (i := 2) rfl (x := y2) rfl (y := x6) ex6 (L' := [xR a, xR q1, xI x6]) rfl k) ?_
      refine ev_st (pc' := 9) (L' := [xR a, xR q1, xI x6]) (st' := []) (fun _ _ _ k => e_goto dX1_dropOldest_31 (tgt := 9) rfl k) ?_
      exact ih x6 R5
set_option maxRecDepth 20000 in
set_option maxHeartbeats 4000000 in
theorem c_X1_dropOldest {l : Launch} {g : xG} {d : Nat} {A : xA} {R : xN} {a : Nat} (h_a : sh 1 A a)  : Ev l g (d) mX1_dropOldest 0 [xR a, xU, xU] [] A R (fun _ : xN => none) (fun v => v) (f_X1_dropOldest a R) := by
  rw [f_X1_dropOldest]
  refine ev_st (pc' := 5) (L' := [xR a, xU, xU]) (st' := [xI 0, xR (a + 1)]) (fun _ _ _ k => e_aload_n dX1_dropOldest_0 rfl (i := 0) (x := a) rfl (e_getr dX1_dropOldest_1 flX1_12 (kd1_0 h_a) rfl (rf1_0_0 h_a) (e_iconst dX1_dropOldest_4 (k4 rfl) k))) ?_
  refine ev_chk (fun h1 => ?_)
  refine ev_st (pc' := 6) (L' := [xR a, xU, xU]) (st' := [xR (R (a + 1) 0).toNat]) (fun _ _ _ k => e_aald3 dX1_dropOldest_5 (kd1_1 h_a) h1.1 h1.2.1 (xsta_0 h1.2.2) k) ?_
  refine ev_st (pc' := 9) (L' := [xR a, xR (R (a + 1) 0).toNat, xI 0]) (st' := []) (fun _ _ _ k => e_astore_n dX1_dropOldest_6 rfl (i := 1) rfl (L' := [xR a, xR (R (a + 1) 0).toNat, xU]) rfl (e_iconst dX1_dropOldest_7 (k4 rfl) (e_istore_n dX1_dropOldest_8 rfl (i := 2) rfl (L' := [xR a, xR (R (a + 1) 0).toNat, xI 0]) rfl k))) ?_
  refine lc_X1_dropOldest_9 h_a (R (a + 1) 0).toNat (fun z7 R8 => ?_) 6000 0 R
  refine ev_st (pc' := 41) (L' := [xR a, xR (R (a + 1) 0).toNat, xU]) (st' := []) (fun _ _ _ k => e_aload_n dX1_dropOldest_34 rfl (i := 0) (x := a) rfl (e_getr dX1_dropOldest_35 flX1_12 (kd1_0 h_a) rfl (rf1_0_0 h_a) (e_iconst dX1_dropOldest_38 (k4 rfl) (e_aload_n dX1_dropOldest_39 rfl (i := 1) (x := (R (a + 1) 0).toNat) rfl (e_aast3 dX1_dropOldest_40 (kd1_1 h_a) (kd8_0 (xsta_sh h_a h1.2.2)) (by decide) (by decide) (xsta_le h1.2.2) k))))) ?_
  refine ev_letR (fun R9 eR9 => ?_)
  exact ev_ret (e_vret dX1_dropOldest_41)
def f_X1_settle (a : Nat) (i0 : Int) (R : xN) : Option (Int × xN) :=
  (f_X9_isError i0 R).bind (fun v1 =>
  if v1 = true then
  some (i0, R)
  else
  if 5 ≤ (R a 1) then
  (f_X1_dropOldest a R).bind (fun v4 =>
  some (i0, v4))
  else
  xlet (xup R a 1 (w4 ((R a 1) + 1))) (fun R5 =>
  some (i0, R5)))
set_option maxRecDepth 20000 in
set_option maxHeartbeats 4000000 in
theorem c_X1_settle {l : Launch} {g : xG} {d : Nat} {A : xA} {R : xN} {a : Nat} (h_a : sh 1 A a) (i0 : Int) : Ev l g (d + 2) mX1_settle 0 [xR a, xI i0] [] A R (fun v : Int × xN => some (xI v.1)) (fun v => v.2) (f_X1_settle a i0 R) := by
  rw [f_X1_settle]
  refine ev_st (pc' := 1) (L' := [xR a, xI i0]) (st' := [xI i0]) (fun _ _ _ k => e_iload_n dX1_settle_0 rfl (i := 1) (x := i0) rfl k) ?_
  refine ev_callN (As := [xI i0]) (st := []) (fun v1 => [xI (xz v1)]) dX1_settle_1 mlX1_30 rfl rfl rfl rfl rfl rfl (c_X9_isError (d := d) i0) (fun _ => xz01 _) (fun _ => rfl) (fun v1 => ?_)
  refine ev_br2 (P := v1 = true) (pct := 7) (pcf := 9) (st' := []) (fun _ _ _ kt kf => e_ifeqz dX1_settle_4 (tgt := 9) rfl kt kf) (fun h2 => ?_) (fun h2 => ?_)
  · exact ev_ret (e_iload_n dX1_settle_7 rfl (i := 1) (x := i0) rfl (e_iret dX1_settle_8))
  · refine ev_st (pc' := 14) (L' := [xR a, xI i0]) (st' := [xI 5, xI (R a 1)]) (fun _ _ _ k => e_aload_n dX1_settle_9 rfl (i := 0) (x := a) rfl (e_geti dX1_settle_10 flX1_18 (kd1_0 h_a) (Or.inl rfl) (e_iconst dX1_settle_13 (k4 rfl) k))) ?_
    refine ev_br2 (P := 5 ≤ (R a 1)) (pct := 30) (pcf := 17) (st' := []) (fun _ _ _ kt kf => e_cge dX1_settle_14 (tgt := 30) rfl kt kf) (fun h3 => ?_) (fun h3 => ?_)
    · refine ev_st (pc' := 31) (L' := [xR a, xI i0]) (st' := [xR a]) (fun _ _ _ k => e_aload_n dX1_settle_30 rfl (i := 0) (x := a) rfl k) ?_
      refine ev_callV (As := []) (st := []) (fun v4 => []) dX1_settle_31 mlX1_34 (kd1_0 h_a) rfl rfl rfl rfl rfl rfl (c_X1_dropOldest (d := d + 1) h_a) (fun _ => trivial) (fun _ => rfl) (fun v4 => ?_)
      exact ev_ret (e_iload_n dX1_settle_34 rfl (i := 1) (x := i0) rfl (e_iret dX1_settle_35))
    · refine ev_st (pc' := 27) (L' := [xR a, xI i0]) (st' := []) (fun _ _ _ k => e_aload_n dX1_settle_17 rfl (i := 0) (x := a) rfl (e_dupR dX1_settle_18 (e_geti dX1_settle_19 flX1_18 (kd1_0 h_a) (Or.inl rfl) (e_iconst dX1_settle_22 (k4 rfl) (e_iadd dX1_settle_23 (e_puti dX1_settle_24 flX1_18 (kd1_0 h_a) (Or.inl rfl) rfl k)))))) ?_
      refine ev_letR (fun R5 eR5 => ?_)
      exact ev_ret (e_goto dX1_settle_27 (tgt := 34) rfl (e_iload_n dX1_settle_34 rfl (i := 1) (x := i0) rfl (e_iret dX1_settle_35)))
def f_X1_goBack (a : Nat) (b : Nat) (R : xN) : Option (Int × xN) :=
  if 0 < (R a 1) then
  xlet (xup R a 1 (w4 ((R a 1) - 1))) (fun R2 =>
  (f_X1_bringBack a b R2).bind (fun v3 =>
  some ((v3 a 1), v3)))
  else
  some ((-2), R)
set_option maxRecDepth 20000 in
set_option maxHeartbeats 4000000 in
theorem c_X1_goBack {l : Launch} {g : xG} {d : Nat} {A : xA} {R : xN} {a : Nat} {b : Nat} (h_a : sh 1 A a) (h_b : sh 8 A b)  : Ev l g (d + 5) mX1_goBack 0 [xR a, xR b] [] A R (fun v : Int × xN => some (xI v.1)) (fun v => v.2) (f_X1_goBack a b R) := by
  rw [f_X1_goBack]
  refine ev_st (pc' := 4) (L' := [xR a, xR b]) (st' := [xI (R a 1)]) (fun _ _ _ k => e_aload_n dX1_goBack_0 rfl (i := 0) (x := a) rfl (e_geti dX1_goBack_1 flX1_18 (kd1_0 h_a) (Or.inl rfl) k)) ?_
  refine ev_br2 (P := 0 < (R a 1)) (pct := 10) (pcf := 7) (st' := []) (fun _ _ _ kt kf => e_ifgt dX1_goBack_4 (tgt := 10) rfl kt kf) (fun h1 => ?_) (fun h1 => ?_)
  · refine ev_st (pc' := 20) (L' := [xR a, xR b]) (st' := []) (fun _ _ _ k => e_aload_n dX1_goBack_10 rfl (i := 0) (x := a) rfl (e_dupR dX1_goBack_11 (e_geti dX1_goBack_12 flX1_18 (kd1_0 h_a) (Or.inl rfl) (e_iconst dX1_goBack_15 (k4 rfl) (e_isub dX1_goBack_16 (e_puti dX1_goBack_17 flX1_18 (kd1_0 h_a) (Or.inl rfl) rfl k)))))) ?_
    refine ev_letR (fun R2 eR2 => ?_)
    refine ev_st (pc' := 22) (L' := [xR a, xR b]) (st' := [xR b, xR a]) (fun _ _ _ k => e_aload_n dX1_goBack_20 rfl (i := 0) (x := a) rfl (e_aload_n dX1_goBack_21 rfl (i := 1) (x := b) rfl k)) ?_
    refine ev_callV (As := [xR b]) (st := []) (fun v3 => []) dX1_goBack_22 mlX1_37 (kd1_0 h_a) rfl rfl rfl rfl rfl rfl (c_X1_bringBack (d := d) h_a h_b) (fun _ => trivial) (fun _ => rfl) (fun v3 => ?_)
    exact ev_ret (e_aload_n dX1_goBack_25 rfl (i := 0) (x := a) rfl (e_geti dX1_goBack_26 flX1_18 (kd1_0 h_a) (Or.inl rfl) (e_iret dX1_goBack_29)))
  · exact ev_ret (e_bipush dX1_goBack_7 rfl (k4 rfl) (e_iret dX1_goBack_9))
def lp_X2_countLines_27 (a : Nat) (b : Nat) : Nat → Int → xN → (Int → xN → Option (xN)) → Option (xN)
  | 0, _, _, _ => none
  | n + 1, y2, R, X =>
    if (R a 5) ≤ y2 then
    X y2 R
    else
    if 0 ≤ y2 ∧ y2 < 18 then
    (f_X0_linesAt b y2 R).bind (fun v6 =>
    if 0 ≤ (w4 (y2 + 1)) ∧ (w4 (y2 + 1)) < 18 then
    xlet (xup R (a + 4) ((w4 (y2 + 1))).toNat (w4 ((R (a + 4) (y2).toNat) + v6))) (fun R8 =>
    xlet (w4 (y2 + 1)) (fun x9 =>
    lp_X2_countLines_27 a b n x9 R8 X))
    else none)
    else none
def f_X2_countLines (a : Nat) (b : Nat) (R : xN) : Option (xN) :=
  (f_X3_depth (b + 4) R).bind (fun v1 =>
  xlet (xup R a 5 (w4 ((if 16 < v1 then 16 else v1) + 1))) (fun R2 =>
  xlet (xup R2 (a + 4) 0 0) (fun R3 =>
  lp_X2_countLines_27 a b 6000 0 R3 (fun z10 R11 =>
  some R11))))
set_option maxRecDepth 20000 in
set_option maxHeartbeats 4000000 in
theorem lc_X2_countLines_27 {l : Launch} {g : xG} {d : Nat} {A : xA} {a : Nat} {b : Nat} (h_a : sh 2 A a) (h_b : sh 0 A b)  {X : Int → xN → Option (xN)} (hX : ∀ (y2 : Int) (R : xN), Ev l g (d + 4) mX2_countLines 61 [xU, xU, xU] [] A R (fun _ : xN => none) (fun v => v) (X y2 R)) (n : Nat) (y2 : Int) (R : xN) : Ev l g (d + 4) mX2_countLines 27 [xR a, xR b, xI y2] [] A R (fun _ : xN => none) (fun v => v) (lp_X2_countLines_27 a b n y2 R X) := by
  induction n generalizing y2 R with
  | zero => exact ev_none
  | succ n ih =>
    rw [lp_X2_countLines_27]
    refine ev_st (pc' := 32) (L' := [xR a, xR b, xI y2]) (st' := [xI (R a 5), xI y2]) (fun _ _ _ k => e_iload_n dX2_countLines_27 rfl (i := 2) (x := y2) rfl (e_aload_n dX2_countLines_28 rfl (i := 0) (x := a) rfl (e_geti dX2_countLines_29 flX2_28 (kd2_0 h_a) (Or.inl rfl) k))) ?_
    refine ev_br2 (P := (R a 5) ≤ y2) (pct := 61) (pcf := 35) (st' := []) (fun _ _ _ kt kf => e_cge dX2_countLines_32 (tgt := 61) rfl kt kf) (fun h4 => ?_) (fun h4 => ?_)
    · refine ev_st (pc' := 61) (L' := [xU, xU, xU]) (st' := []) (fun _ _ _ k => e_fg [0, 1, 2] k) ?_
      exact hX y2 R
    · refine ev_st (pc' := 47) (L' := [xR a, xR b, xI y2]) (st' := [xI y2, xR (a + 4), xI (w4 (y2 + 1)), xR (a + 4)]) (fun _ _ _ k => e_aload_n dX2_countLines_35 rfl (i := 0) (x := a) rfl (e_getr dX2_countLines_36 flX2_25 (kd2_0 h_a) rfl (rf2_0_4 h_a) (e_iload_n dX2_countLines_39 rfl (i := 2) (x := y2) rfl (e_iconst dX2_countLines_40 (k4 rfl) (e_iadd dX2_countLines_41 (e_aload_n dX2_countLines_42 rfl (i := 0) (x := a) rfl (e_getr dX2_countLines_43 flX2_25 (kd2_0 h_a) rfl (rf2_0_4 h_a) (e_iload_n dX2_countLines_46 rfl (i := 2) (x := y2) rfl k)))))))) ?_
      refine ev_chk (fun h5 => ?_)
      refine ev_st (pc' := 48) (L' := [xR a, xR b, xI y2]) (st' := [xI (R (a + 4) (y2).toNat), xI (w4 (y2 + 1)), xR (a + 4)]) (fun _ _ _ k => e_iald dX2_countLines_47 (kd2_4 h_a) h5.1 h5.2 k) ?_
      refine ev_st (pc' := 50) (L' := [xR a, xR b, xI y2]) (st' := [xI y2, xR b, xI (R (a + 4) (y2).toNat), xI (w4 (y2 + 1)), xR (a + 4)]) (fun _ _ _ k => e_aload_n dX2_countLines_48 rfl (i := 1) (x := b) rfl (e_iload_n dX2_countLines_49 rfl (i := 2) (x := y2) rfl k)) ?_
      refine ev_callV (As := [xI y2]) (st := [xI (R (a + 4) (y2).toNat), xI (w4 (y2 + 1)), xR (a + 4)]) (fun v6 => [xI v6, xI (R (a + 4) (y2).toNat), xI (w4 (y2 + 1)), xR (a + 4)]) dX2_countLines_50 mlX2_91 (kd0_0 h_b) rfl rfl rfl rfl rfl rfl (c_X0_linesAt (d := d) h_b y2) (fun _ => trivial) (fun _ => rfl) (fun v6 => ?_)
      refine ev_st (pc' := 54) (L' := [xR a, xR b, xI y2]) (st' := [xI (w4 ((R (a + 4) (y2).toNat) + v6)), xI (w4 (y2 + 1)), xR (a + 4)]) (fun _ _ _ k => e_iadd dX2_countLines_53 k) ?_
      refine ev_chk (fun h7 => ?_)
      refine ev_st (pc' := 55) (L' := [xR a, xR b, xI y2]) (st' := []) (fun _ _ _ k => e_iast dX2_countLines_54 (kd2_4 h_a) h7.1 h7.2 k) ?_
      refine ev_letR (fun R8 eR8 => ?_)
      refine ev_letx (fun x9 ex9 => ?_)
      refine ev_st (pc' := 58) (L' := [xR a, xR b, xI x9]) (st' := []) (fun _ _ _ k => e_iinc dX2_countLines_55 (i := 2) rfl (x := y2) rfl (y := x9) ex9 (L' := [xR a, xR b, xI x9]) rfl k) ?_
      refine ev_st (pc' := 27) (L' := [xR a, xR b, xI x9]) (st' := []) (fun _ _ _ k => e_goto dX2_countLines_58 (tgt := 27) rfl k) ?_
      exact ih x9 R8
set_option maxRecDepth 20000 in
set_option maxHeartbeats 4000000 in
theorem c_X2_countLines {l : Launch} {g : xG} {d : Nat} {A : xA} {R : xN} {a : Nat} {b : Nat} (h_a : sh 2 A a) (h_b : sh 0 A b)  : Ev l g (d + 4) mX2_countLines 0 [xR a, xR b, xU] [] A R (fun _ : xN => none) (fun v => v) (f_X2_countLines a b R) := by
  rw [f_X2_countLines]
  refine ev_st (pc' := 5) (L' := [xR a, xR b, xU]) (st' := [xR (b + 4), xR a]) (fun _ _ _ k => e_aload_n dX2_countLines_0 rfl (i := 0) (x := a) rfl (e_aload_n dX2_countLines_1 rfl (i := 1) (x := b) rfl (e_getr dX2_countLines_2 flX2_76 (kd0_0 h_b) rfl (rf0_0_1 h_b) k))) ?_
  refine ev_callV (As := []) (st := [xR a]) (fun v1 => [xI v1, xR a]) dX2_countLines_5 mlX2_80 (kd0_4 h_b) rfl rfl rfl rfl rfl rfl (c_X3_depth (d := d + 3) (sb0_4_3 h_b)) (fun _ => trivial) (fun _ => rfl) (fun v1 => ?_)
  refine ev_st (pc' := 18) (L' := [xR a, xR b, xU]) (st' := []) (fun _ _ _ k => e_bipush dX2_countLines_8 rfl (k4 rfl) (e_min dX2_countLines_10 cw_672 cw_673 cw_14 cw_674 rfl (e_iconst dX2_countLines_13 (k4 rfl) (e_iadd dX2_countLines_14 (e_puti dX2_countLines_15 flX2_28 (kd2_0 h_a) (Or.inl rfl) rfl k))))) ?_
  refine ev_letR (fun R2 eR2 => ?_)
  refine ev_st (pc' := 25) (L' := [xR a, xR b, xU]) (st' := []) (fun _ _ _ k => e_aload_n dX2_countLines_18 rfl (i := 0) (x := a) rfl (e_getr dX2_countLines_19 flX2_25 (kd2_0 h_a) rfl (rf2_0_4 h_a) (e_iconst dX2_countLines_22 (k4 rfl) (e_iconst dX2_countLines_23 (k4 rfl) (e_iast dX2_countLines_24 (kd2_4 h_a) (by decide) (by decide) k))))) ?_
  refine ev_letR (fun R3 eR3 => ?_)
  refine ev_st (pc' := 27) (L' := [xR a, xR b, xI 0]) (st' := []) (fun _ _ _ k => e_iconst dX2_countLines_25 (k4 rfl) (e_istore_n dX2_countLines_26 rfl (i := 2) rfl (L' := [xR a, xR b, xI 0]) rfl k)) ?_
  refine lc_X2_countLines_27 h_a h_b (fun z10 R11 => ?_) 6000 0 R3
  exact ev_ret (e_vret dX2_countLines_61)
def f_X2_linesOf (a : Nat) (i0 : Int) (R : xN) : Option (Int) :=
  (f_X9_isIn i0 0 (w4 ((R a 5) - 1)) R).bind (fun v1 =>
  if v1 = true then
  if 0 ≤ (w4 (i0 + 1)) ∧ (w4 (i0 + 1)) < 18 then
  if 0 ≤ i0 ∧ i0 < 18 then
  some (w4 ((R (a + 4) ((w4 (i0 + 1))).toNat) - (R (a + 4) (i0).toNat)))
  else none
  else none
  else
  some 0)
set_option maxRecDepth 20000 in
set_option maxHeartbeats 4000000 in
theorem c_X2_linesOf {l : Launch} {g : xG} {d : Nat} {A : xA} {R : xN} {a : Nat} (h_a : sh 2 A a) (i0 : Int) : Ev l g (d + 1) mX2_linesOf 0 [xR a, xI i0] [] A R (fun v : Int => some (xI v)) (fun _ => R) (f_X2_linesOf a i0 R) := by
  rw [f_X2_linesOf]
  refine ev_st (pc' := 8) (L' := [xR a, xI i0]) (st' := [xI (w4 ((R a 5) - 1)), xI 0, xI i0]) (fun _ _ _ k => e_iload_n dX2_linesOf_0 rfl (i := 1) (x := i0) rfl (e_iconst dX2_linesOf_1 (k4 rfl) (e_aload_n dX2_linesOf_2 rfl (i := 0) (x := a) rfl (e_geti dX2_linesOf_3 flX2_28 (kd2_0 h_a) (Or.inl rfl) (e_iconst dX2_linesOf_6 (k4 rfl) (e_isub dX2_linesOf_7 k)))))) ?_
  refine ev_callN (As := [xI i0, xI 0, xI (w4 ((R a 5) - 1))]) (st := []) (fun v1 => [xI (xz v1)]) dX2_linesOf_8 mlX2_102 rfl rfl rfl rfl rfl rfl (c_X9_isIn (d := d) i0 0 (w4 ((R a 5) - 1))) (fun _ => xz01 _) (fun _ => rfl) (fun v1 => ?_)
  refine ev_br2 (P := v1 = true) (pct := 14) (pcf := 32) (st' := []) (fun _ _ _ kt kf => e_ifeqz dX2_linesOf_11 (tgt := 32) rfl kt kf) (fun h2 => ?_) (fun h2 => ?_)
  · refine ev_st (pc' := 21) (L' := [xR a, xI i0]) (st' := [xI (w4 (i0 + 1)), xR (a + 4)]) (fun _ _ _ k => e_aload_n dX2_linesOf_14 rfl (i := 0) (x := a) rfl (e_getr dX2_linesOf_15 flX2_25 (kd2_0 h_a) rfl (rf2_0_4 h_a) (e_iload_n dX2_linesOf_18 rfl (i := 1) (x := i0) rfl (e_iconst dX2_linesOf_19 (k4 rfl) (e_iadd dX2_linesOf_20 k))))) ?_
    refine ev_chk (fun h3 => ?_)
    refine ev_st (pc' := 22) (L' := [xR a, xI i0]) (st' := [xI (R (a + 4) ((w4 (i0 + 1))).toNat)]) (fun _ _ _ k => e_iald dX2_linesOf_21 (kd2_4 h_a) h3.1 h3.2 k) ?_
    refine ev_st (pc' := 27) (L' := [xR a, xI i0]) (st' := [xI i0, xR (a + 4), xI (R (a + 4) ((w4 (i0 + 1))).toNat)]) (fun _ _ _ k => e_aload_n dX2_linesOf_22 rfl (i := 0) (x := a) rfl (e_getr dX2_linesOf_23 flX2_25 (kd2_0 h_a) rfl (rf2_0_4 h_a) (e_iload_n dX2_linesOf_26 rfl (i := 1) (x := i0) rfl k))) ?_
    refine ev_chk (fun h4 => ?_)
    refine ev_st (pc' := 28) (L' := [xR a, xI i0]) (st' := [xI (R (a + 4) (i0).toNat), xI (R (a + 4) ((w4 (i0 + 1))).toNat)]) (fun _ _ _ k => e_iald dX2_linesOf_27 (kd2_4 h_a) h4.1 h4.2 k) ?_
    exact ev_ret (e_isub dX2_linesOf_28 (e_goto dX2_linesOf_29 (tgt := 33) rfl (e_iret dX2_linesOf_33)))
  · exact ev_ret (e_iconst dX2_linesOf_32 (k4 rfl) (e_iret dX2_linesOf_33))
def lp_X2_listPages_7 (a : Nat) (b : Nat) : Nat → Int → xN → (Int → xN → Option (xN)) → Option (xN)
  | 0, _, _, _ => none
  | n + 1, y2, R, X =>
    (f_X3_lastPage (b + 4) R).bind (fun v2 =>
    if v2 < y2 then
    X y2 R
    else
    if 32 ≤ (R a 3) then
    X y2 R
    else
    (f_X2_linesOf a (w4 (Int.tdiv (w4 (y2 + 1)) 2)) R).bind (fun v5 =>
    if v5 ≤ 0 then
    xlet (w4 (y2 + 1)) (fun x7 =>
    lp_X2_listPages_7 a b n x7 R X)
    else
    if 0 ≤ (R a 3) ∧ (R a 3) < 32 then
    xlet (xup R (a + 3) ((R a 3)).toNat y2) (fun R9 =>
    xlet (xup R9 a 3 (w4 ((R9 a 3) + 1))) (fun R10 =>
    xlet (w4 (y2 + 1)) (fun x11 =>
    lp_X2_listPages_7 a b n x11 R10 X)))
    else none))
def f_X2_listPages (a : Nat) (b : Nat) (R : xN) : Option (xN) :=
  xlet (xup R a 3 0) (fun R1 =>
  lp_X2_listPages_7 a b 6000 0 R1 (fun z12 R13 =>
  some R13))
set_option maxRecDepth 20000 in
set_option maxHeartbeats 4000000 in
theorem lc_X2_listPages_7 {l : Launch} {g : xG} {d : Nat} {A : xA} {a : Nat} {b : Nat} (h_a : sh 2 A a) (h_b : sh 0 A b)  {X : Int → xN → Option (xN)} (hX : ∀ (y2 : Int) (R : xN), Ev l g (d + 2) mX2_listPages 65 [xU, xU, xU] [] A R (fun _ : xN => none) (fun v => v) (X y2 R)) (n : Nat) (y2 : Int) (R : xN) : Ev l g (d + 2) mX2_listPages 7 [xR a, xR b, xI y2] [] A R (fun _ : xN => none) (fun v => v) (lp_X2_listPages_7 a b n y2 R X) := by
  induction n generalizing y2 R with
  | zero => exact ev_none
  | succ n ih =>
    rw [lp_X2_listPages_7]
    refine ev_st (pc' := 12) (L' := [xR a, xR b, xI y2]) (st' := [xR (b + 4), xI y2]) (fun _ _ _ k => e_iload_n dX2_listPages_7 rfl (i := 2) (x := y2) rfl (e_aload_n dX2_listPages_8 rfl (i := 1) (x := b) rfl (e_getr dX2_listPages_9 flX2_76 (kd0_0 h_b) rfl (rf0_0_1 h_b) k))) ?_
    refine ev_callV (As := []) (st := [xI y2]) (fun v2 => [xI v2, xI y2]) dX2_listPages_12 mlX2_94 (kd0_4 h_b) rfl rfl rfl rfl rfl rfl (c_X3_lastPage (d := d) (sb0_4_3 h_b)) (fun _ => trivial) (fun _ => rfl) (fun v2 => ?_)
    refine ev_br2 (P := v2 < y2) (pct := 65) (pcf := 18) (st' := []) (fun _ _ _ kt kf => e_cgt dX2_listPages_15 (tgt := 65) rfl kt kf) (fun h3 => ?_) (fun h3 => ?_)
    · refine ev_st (pc' := 65) (L' := [xU, xU, xU]) (st' := []) (fun _ _ _ k => e_fg [0, 1, 2] k) ?_
      exact hX y2 R
    · refine ev_st (pc' := 24) (L' := [xR a, xR b, xI y2]) (st' := [xI 32, xI (R a 3)]) (fun _ _ _ k => e_aload_n dX2_listPages_18 rfl (i := 0) (x := a) rfl (e_geti dX2_listPages_19 flX2_21 (kd2_0 h_a) (Or.inl rfl) (e_bipush dX2_listPages_22 rfl (k4 rfl) k))) ?_
      refine ev_br2 (P := 32 ≤ (R a 3)) (pct := 65) (pcf := 27) (st' := []) (fun _ _ _ kt kf => e_cge dX2_listPages_24 (tgt := 65) rfl kt kf) (fun h4 => ?_) (fun h4 => ?_)
      · refine ev_st (pc' := 65) (L' := [xU, xU, xU]) (st' := []) (fun _ _ _ k => e_fg [0, 1, 2] k) ?_
        exact hX y2 R
      · refine ev_st (pc' := 33) (L' := [xR a, xR b, xI y2]) (st' := [xI (w4 (Int.tdiv (w4 (y2 + 1)) 2)), xR a]) (fun _ _ _ k => e_aload_n dX2_listPages_27 rfl (i := 0) (x := a) rfl (e_iload_n dX2_listPages_28 rfl (i := 2) (x := y2) rfl (e_iconst dX2_listPages_29 (k4 rfl) (e_iadd dX2_listPages_30 (e_iconst dX2_listPages_31 (k4 rfl) (e_idiv dX2_listPages_32 (by decide) k)))))) ?_
        refine ev_callV (As := [xI (w4 (Int.tdiv (w4 (y2 + 1)) 2))]) (st := []) (fun v5 => [xI v5]) dX2_listPages_33 mlX2_97 (kd2_0 h_a) rfl rfl rfl rfl rfl rfl (c_X2_linesOf (d := d) h_a (w4 (Int.tdiv (w4 (y2 + 1)) 2))) (fun _ => trivial) (fun _ => rfl) (fun v5 => ?_)
        refine ev_br2 (P := v5 ≤ 0) (pct := 59) (pcf := 39) (st' := []) (fun _ _ _ kt kf => e_ifle dX2_listPages_36 (tgt := 59) rfl kt kf) (fun h6 => ?_) (fun h6 => ?_)
        · refine ev_letx (fun x7 ex7 => ?_)
          refine ev_st (pc' := 62) (L' := [xR a, xR b, xI x7]) (st' := []) (fun _ _ _ k => e_iinc dX2_listPages_59 (i := 2) rfl (x := y2) rfl (y := x7) ex7 (L' := [xR a, xR b, xI x7]) rfl k) ?_
          refine ev_st (pc' := 7) (L' := [xR a, xR b, xI x7]) (st' := []) (fun _ _ _ k => e_goto dX2_listPages_62 (tgt := 7) rfl k) ?_
          exact ih x7 R
        · refine ev_st (pc' := 48) (L' := [xR a, xR b, xI y2]) (st' := [xI y2, xI (R a 3), xR (a + 3)]) (fun _ _ _ k => e_aload_n dX2_listPages_39 rfl (i := 0) (x := a) rfl (e_getr dX2_listPages_40 flX2_18 (kd2_0 h_a) rfl (rf2_0_2 h_a) (e_aload_n dX2_listPages_43 rfl (i := 0) (x := a) rfl (e_geti dX2_listPages_44 flX2_21 (kd2_0 h_a) (Or.inl rfl) (e_iload_n dX2_listPages_47 rfl (i := 2) (x := y2) rfl k))))) ?_
          refine ev_chk (fun h8 => ?_)
          refine ev_st (pc' := 49) (L' := [xR a, xR b, xI y2]) (st' := []) (fun _ _ _ k => e_iast dX2_listPages_48 (kd2_3 h_a) h8.1 h8.2 k) ?_
          refine ev_letR (fun R9 eR9 => ?_)
          refine ev_st (pc' := 59) (L' := [xR a, xR b, xI y2]) (st' := []) (fun _ _ _ k => e_aload_n dX2_listPages_49 rfl (i := 0) (x := a) rfl (e_dupR dX2_listPages_50 (e_geti dX2_listPages_51 flX2_21 (kd2_0 h_a) (Or.inl rfl) (e_iconst dX2_listPages_54 (k4 rfl) (e_iadd dX2_listPages_55 (e_puti dX2_listPages_56 flX2_21 (kd2_0 h_a) (Or.inl rfl) rfl k)))))) ?_
          refine ev_letR (fun R10 eR10 => ?_)
          refine ev_letx (fun x11 ex11 => ?_)
          refine ev_st (pc' := 62) (L' := [xR a, xR b, xI x11]) (st' := []) (fun _ _ _ k => e_iinc dX2_listPages_59 (i := 2) rfl (x := y2) rfl (y := x11) ex11 (L' := [xR a, xR b, xI x11]) rfl k) ?_
          refine ev_st (pc' := 7) (L' := [xR a, xR b, xI x11]) (st' := []) (fun _ _ _ k => e_goto dX2_listPages_62 (tgt := 7) rfl k) ?_
          exact ih x11 R10
set_option maxRecDepth 20000 in
set_option maxHeartbeats 4000000 in
theorem c_X2_listPages {l : Launch} {g : xG} {d : Nat} {A : xA} {R : xN} {a : Nat} {b : Nat} (h_a : sh 2 A a) (h_b : sh 0 A b)  : Ev l g (d + 2) mX2_listPages 0 [xR a, xR b, xU] [] A R (fun _ : xN => none) (fun v => v) (f_X2_listPages a b R) := by
  rw [f_X2_listPages]
  refine ev_st (pc' := 5) (L' := [xR a, xR b, xU]) (st' := []) (fun _ _ _ k => e_aload_n dX2_listPages_0 rfl (i := 0) (x := a) rfl (e_iconst dX2_listPages_1 (k4 rfl) (e_puti dX2_listPages_2 flX2_21 (kd2_0 h_a) (Or.inl rfl) rfl k))) ?_
  refine ev_letR (fun R1 eR1 => ?_)
  refine ev_st (pc' := 7) (L' := [xR a, xR b, xI 0]) (st' := []) (fun _ _ _ k => e_iconst dX2_listPages_5 (k4 rfl) (e_istore_n dX2_listPages_6 rfl (i := 2) rfl (L' := [xR a, xR b, xI 0]) rfl k)) ?_
  refine lc_X2_listPages_7 h_a h_b (fun z12 R13 => ?_) 6000 0 R1
  exact ev_ret (e_vret dX2_listPages_65)
def f_X4_get (a : Nat) (i0 : Int) (i1 : Int) (R : xN) : Option (Int) :=
  xlet (w4 ((w4 (i0 * 4)) + i1)) (fun x1 =>
  (f_X9_isIn x1 0 (w4 (48 - 1)) R).bind (fun v2 =>
  if v2 = true then
  if 0 ≤ x1 ∧ x1 < 48 then
  some (R (a + 1) (x1).toNat)
  else none
  else
  some 0))
set_option maxRecDepth 20000 in
set_option maxHeartbeats 4000000 in
theorem c_X4_get {l : Launch} {g : xG} {d : Nat} {A : xA} {R : xN} {a : Nat} (h_a : sh 4 A a) (i0 : Int) (i1 : Int) : Ev l g (d + 1) mX4_get 0 [xR a, xI i0, xI i1, xU] [] A R (fun v : Int => some (xI v)) (fun _ => R) (f_X4_get a i0 i1 R) := by
  rw [f_X4_get]
  refine ev_st (pc' := 5) (L' := [xR a, xI i0, xI i1, xU]) (st' := [xI (w4 ((w4 (i0 * 4)) + i1))]) (fun _ _ _ k => e_iload_n dX4_get_0 rfl (i := 1) (x := i0) rfl (e_iconst dX4_get_1 (k4 rfl) (e_imul dX4_get_2 (e_iload_n dX4_get_3 rfl (i := 2) (x := i1) rfl (e_iadd dX4_get_4 k))))) ?_
  refine ev_leti (fun x1 ex1 => ?_)
  refine ev_st (pc' := 6) (L' := [xR a, xI i0, xI i1, xI x1]) (st' := []) (fun _ _ _ k => e_istore_n dX4_get_5 rfl (i := 3) rfl (L' := [xR a, xI i0, xI i1, xI x1]) rfl k) ?_
  refine ev_st (pc' := 15) (L' := [xR a, xI i0, xI i1, xI x1]) (st' := [xI (w4 (48 - 1)), xI 0, xI x1]) (fun _ _ _ k => e_iload_n dX4_get_6 rfl (i := 3) (x := x1) rfl (e_iconst dX4_get_7 (k4 rfl) (e_aload_n dX4_get_8 rfl (i := 0) (x := a) rfl (e_getr dX4_get_9 flX4_11 (kd4_0 h_a) rfl (rf4_0_0 h_a) (e_alen dX4_get_12 (kd4_1 h_a) (k4 rfl) (e_iconst dX4_get_13 (k4 rfl) (e_isub dX4_get_14 k))))))) ?_
  refine ev_callN (As := [xI x1, xI 0, xI (w4 (48 - 1))]) (st := []) (fun v2 => [xI (xz v2)]) dX4_get_15 mlX4_25 rfl rfl rfl rfl rfl rfl (c_X9_isIn (d := d) x1 0 (w4 (48 - 1))) (fun _ => xz01 _) (fun _ => rfl) (fun v2 => ?_)
  refine ev_br2 (P := v2 = true) (pct := 21) (pcf := 30) (st' := []) (fun _ _ _ kt kf => e_ifeqz dX4_get_18 (tgt := 30) rfl kt kf) (fun h3 => ?_) (fun h3 => ?_)
  · refine ev_st (pc' := 26) (L' := [xR a, xI i0, xI i1, xI x1]) (st' := [xI x1, xR (a + 1)]) (fun _ _ _ k => e_aload_n dX4_get_21 rfl (i := 0) (x := a) rfl (e_getr dX4_get_22 flX4_11 (kd4_0 h_a) rfl (rf4_0_0 h_a) (e_iload_n dX4_get_25 rfl (i := 3) (x := x1) rfl k))) ?_
    refine ev_chk (fun h4 => ?_)
    refine ev_st (pc' := 27) (L' := [xR a, xI i0, xI i1, xI x1]) (st' := [xI (R (a + 1) (x1).toNat)]) (fun _ _ _ k => e_iald dX4_get_26 (kd4_1 h_a) h4.1 h4.2 k) ?_
    exact ev_ret (e_goto dX4_get_27 (tgt := 31) rfl (e_iret dX4_get_31))
  · exact ev_ret (e_iconst dX4_get_30 (k4 rfl) (e_iret dX4_get_31))
def f_X4_subjectOf (a : Nat) (i0 : Int) (R : xN) : Option (Int) :=
  (f_X4_get a i0 0 R).bind (fun v1 =>
  some v1)
set_option maxRecDepth 20000 in
set_option maxHeartbeats 4000000 in
theorem c_X4_subjectOf {l : Launch} {g : xG} {d : Nat} {A : xA} {R : xN} {a : Nat} (h_a : sh 4 A a) (i0 : Int) : Ev l g (d + 2) mX4_subjectOf 0 [xR a, xI i0] [] A R (fun v : Int => some (xI v)) (fun _ => R) (f_X4_subjectOf a i0 R) := by
  rw [f_X4_subjectOf]
  refine ev_st (pc' := 3) (L' := [xR a, xI i0]) (st' := [xI 0, xI i0, xR a]) (fun _ _ _ k => e_aload_n dX4_subjectOf_0 rfl (i := 0) (x := a) rfl (e_iload_n dX4_subjectOf_1 rfl (i := 1) (x := i0) rfl (e_iconst dX4_subjectOf_2 (k4 rfl) k))) ?_
  refine ev_callV (As := [xI i0, xI 0]) (st := []) (fun v1 => [xI v1]) dX4_subjectOf_3 mlX4_33 (kd4_0 h_a) rfl rfl rfl rfl rfl rfl (c_X4_get (d := d) h_a i0 0) (fun _ => trivial) (fun _ => rfl) (fun v1 => ?_)
  exact ev_ret (e_iret dX4_subjectOf_6)
def f_X4_comesBefore (a : Nat) (i0 : Int) (i1 : Int) (R : xN) : Option (Bool) :=
  (f_X4_get a i0 1 R).bind (fun v1 =>
  (f_X4_get a i1 1 R).bind (fun v2 =>
  if v1 = v2 then
  (f_X4_subjectOf a i0 R).bind (fun v4 =>
  (f_X4_subjectOf a i1 R).bind (fun v5 =>
  if v4 = v5 then
  if i1 ≤ i0 then
  some false
  else
  some true
  else
  (f_X4_subjectOf a i0 R).bind (fun v8 =>
  (f_X4_subjectOf a i1 R).bind (fun v9 =>
  if v9 ≤ v8 then
  some false
  else
  some true))))
  else
  (f_X4_get a i0 1 R).bind (fun v11 =>
  (f_X4_get a i1 1 R).bind (fun v12 =>
  if v11 ≤ v12 then
  some false
  else
  some true))))
set_option maxRecDepth 20000 in
set_option maxHeartbeats 4000000 in
theorem c_X4_comesBefore {l : Launch} {g : xG} {d : Nat} {A : xA} {R : xN} {a : Nat} (h_a : sh 4 A a) (i0 : Int) (i1 : Int) : Ev l g (d + 3) mX4_comesBefore 0 [xR a, xI i0, xI i1] [] A R (fun v : Bool => some (xI (xz v))) (fun _ => R) (f_X4_comesBefore a i0 i1 R) := by
  rw [f_X4_comesBefore]
  refine ev_st (pc' := 3) (L' := [xR a, xI i0, xI i1]) (st' := [xI 1, xI i0, xR a]) (fun _ _ _ k => e_aload_n dX4_comesBefore_0 rfl (i := 0) (x := a) rfl (e_iload_n dX4_comesBefore_1 rfl (i := 1) (x := i0) rfl (e_iconst dX4_comesBefore_2 (k4 rfl) k))) ?_
  refine ev_callV (As := [xI i0, xI 1]) (st := []) (fun v1 => [xI v1]) dX4_comesBefore_3 mlX4_33 (kd4_0 h_a) rfl rfl rfl rfl rfl rfl (c_X4_get (d := d + 1) h_a i0 1) (fun _ => trivial) (fun _ => rfl) (fun v1 => ?_)
  refine ev_st (pc' := 9) (L' := [xR a, xI i0, xI i1]) (st' := [xI 1, xI i1, xR a, xI v1]) (fun _ _ _ k => e_aload_n dX4_comesBefore_6 rfl (i := 0) (x := a) rfl (e_iload_n dX4_comesBefore_7 rfl (i := 2) (x := i1) rfl (e_iconst dX4_comesBefore_8 (k4 rfl) k))) ?_
  refine ev_callV (As := [xI i1, xI 1]) (st := [xI v1]) (fun v2 => [xI v2, xI v1]) dX4_comesBefore_9 mlX4_33 (kd4_0 h_a) rfl rfl rfl rfl rfl rfl (c_X4_get (d := d + 1) h_a i1 1) (fun _ => trivial) (fun _ => rfl) (fun v2 => ?_)
  refine ev_br2 (P := v1 = v2) (pct := 36) (pcf := 15) (st' := []) (fun _ _ _ kt kf => e_ceq dX4_comesBefore_12 (tgt := 36) rfl kt kf) (fun h3 => ?_) (fun h3 => ?_)
  · refine ev_st (pc' := 38) (L' := [xR a, xI i0, xI i1]) (st' := [xI i0, xR a]) (fun _ _ _ k => e_aload_n dX4_comesBefore_36 rfl (i := 0) (x := a) rfl (e_iload_n dX4_comesBefore_37 rfl (i := 1) (x := i0) rfl k)) ?_
    refine ev_callV (As := [xI i0]) (st := []) (fun v4 => [xI v4]) dX4_comesBefore_38 mlX4_37 (kd4_0 h_a) rfl rfl rfl rfl rfl rfl (c_X4_subjectOf (d := d) h_a i0) (fun _ => trivial) (fun _ => rfl) (fun v4 => ?_)
    refine ev_st (pc' := 43) (L' := [xR a, xI i0, xI i1]) (st' := [xI i1, xR a, xI v4]) (fun _ _ _ k => e_aload_n dX4_comesBefore_41 rfl (i := 0) (x := a) rfl (e_iload_n dX4_comesBefore_42 rfl (i := 2) (x := i1) rfl k)) ?_
    refine ev_callV (As := [xI i1]) (st := [xI v4]) (fun v5 => [xI v5, xI v4]) dX4_comesBefore_43 mlX4_37 (kd4_0 h_a) rfl rfl rfl rfl rfl rfl (c_X4_subjectOf (d := d) h_a i1) (fun _ => trivial) (fun _ => rfl) (fun v5 => ?_)
    refine ev_br2 (P := v4 = v5) (pct := 68) (pcf := 49) (st' := []) (fun _ _ _ kt kf => e_ceq dX4_comesBefore_46 (tgt := 68) rfl kt kf) (fun h6 => ?_) (fun h6 => ?_)
    · refine ev_st (pc' := 70) (L' := [xR a, xI i0, xI i1]) (st' := [xI i1, xI i0]) (fun _ _ _ k => e_iload_n dX4_comesBefore_68 rfl (i := 1) (x := i0) rfl (e_iload_n dX4_comesBefore_69 rfl (i := 2) (x := i1) rfl k)) ?_
      refine ev_br2 (P := i1 ≤ i0) (pct := 77) (pcf := 73) (st' := []) (fun _ _ _ kt kf => e_cge dX4_comesBefore_70 (tgt := 77) rfl kt kf) (fun h7 => ?_) (fun h7 => ?_)
      · exact ev_ret (e_iconst dX4_comesBefore_77 (k4 rfl) (e_iret dX4_comesBefore_78))
      · exact ev_ret (e_iconst dX4_comesBefore_73 (k4 rfl) (e_goto dX4_comesBefore_74 (tgt := 78) rfl (e_iret dX4_comesBefore_78)))
    · refine ev_st (pc' := 51) (L' := [xR a, xI i0, xI i1]) (st' := [xI i0, xR a]) (fun _ _ _ k => e_aload_n dX4_comesBefore_49 rfl (i := 0) (x := a) rfl (e_iload_n dX4_comesBefore_50 rfl (i := 1) (x := i0) rfl k)) ?_
      refine ev_callV (As := [xI i0]) (st := []) (fun v8 => [xI v8]) dX4_comesBefore_51 mlX4_37 (kd4_0 h_a) rfl rfl rfl rfl rfl rfl (c_X4_subjectOf (d := d) h_a i0) (fun _ => trivial) (fun _ => rfl) (fun v8 => ?_)
      refine ev_st (pc' := 56) (L' := [xR a, xI i0, xI i1]) (st' := [xI i1, xR a, xI v8]) (fun _ _ _ k => e_aload_n dX4_comesBefore_54 rfl (i := 0) (x := a) rfl (e_iload_n dX4_comesBefore_55 rfl (i := 2) (x := i1) rfl k)) ?_
      refine ev_callV (As := [xI i1]) (st := [xI v8]) (fun v9 => [xI v9, xI v8]) dX4_comesBefore_56 mlX4_37 (kd4_0 h_a) rfl rfl rfl rfl rfl rfl (c_X4_subjectOf (d := d) h_a i1) (fun _ => trivial) (fun _ => rfl) (fun v9 => ?_)
      refine ev_br2 (P := v9 ≤ v8) (pct := 66) (pcf := 62) (st' := []) (fun _ _ _ kt kf => e_cge dX4_comesBefore_59 (tgt := 66) rfl kt kf) (fun h10 => ?_) (fun h10 => ?_)
      · exact ev_ret (e_iconst dX4_comesBefore_66 (k4 rfl) (e_iret dX4_comesBefore_67))
      · exact ev_ret (e_iconst dX4_comesBefore_62 (k4 rfl) (e_goto dX4_comesBefore_63 (tgt := 67) rfl (e_iret dX4_comesBefore_67)))
  · refine ev_st (pc' := 18) (L' := [xR a, xI i0, xI i1]) (st' := [xI 1, xI i0, xR a]) (fun _ _ _ k => e_aload_n dX4_comesBefore_15 rfl (i := 0) (x := a) rfl (e_iload_n dX4_comesBefore_16 rfl (i := 1) (x := i0) rfl (e_iconst dX4_comesBefore_17 (k4 rfl) k))) ?_
    refine ev_callV (As := [xI i0, xI 1]) (st := []) (fun v11 => [xI v11]) dX4_comesBefore_18 mlX4_33 (kd4_0 h_a) rfl rfl rfl rfl rfl rfl (c_X4_get (d := d + 1) h_a i0 1) (fun _ => trivial) (fun _ => rfl) (fun v11 => ?_)
    refine ev_st (pc' := 24) (L' := [xR a, xI i0, xI i1]) (st' := [xI 1, xI i1, xR a, xI v11]) (fun _ _ _ k => e_aload_n dX4_comesBefore_21 rfl (i := 0) (x := a) rfl (e_iload_n dX4_comesBefore_22 rfl (i := 2) (x := i1) rfl (e_iconst dX4_comesBefore_23 (k4 rfl) k))) ?_
    refine ev_callV (As := [xI i1, xI 1]) (st := [xI v11]) (fun v12 => [xI v12, xI v11]) dX4_comesBefore_24 mlX4_33 (kd4_0 h_a) rfl rfl rfl rfl rfl rfl (c_X4_get (d := d + 1) h_a i1 1) (fun _ => trivial) (fun _ => rfl) (fun v12 => ?_)
    refine ev_br2 (P := v11 ≤ v12) (pct := 34) (pcf := 30) (st' := []) (fun _ _ _ kt kf => e_cle dX4_comesBefore_27 (tgt := 34) rfl kt kf) (fun h13 => ?_) (fun h13 => ?_)
    · exact ev_ret (e_iconst dX4_comesBefore_34 (k4 rfl) (e_iret dX4_comesBefore_35))
    · exact ev_ret (e_iconst dX4_comesBefore_30 (k4 rfl) (e_goto dX4_comesBefore_31 (tgt := 35) rfl (e_iret dX4_comesBefore_35)))
def lp_X2_sort_18 (a : Nat) (b : Nat) (p2 : Int) : Nat → Int → xN → (Int → xN → Option (xN)) → Option (xN)
  | 0, _, _, _ => none
  | n + 1, y3, R, X =>
    if y3 ≤ 0 then
    X y3 R
    else
    if 0 ≤ (w4 (y3 - 1)) ∧ (w4 (y3 - 1)) < 12 then
    (f_X4_comesBefore b p2 (R (a + 1) ((w4 (y3 - 1))).toNat) R).bind (fun v5 =>
    if v5 = true then
    if 0 ≤ (w4 (y3 - 1)) ∧ (w4 (y3 - 1)) < 12 then
    if 0 ≤ y3 ∧ y3 < 12 then
    xlet (xup R (a + 1) (y3).toNat (R (a + 1) ((w4 (y3 - 1))).toNat)) (fun R9 =>
    xlet (w4 (y3 + (-1))) (fun x10 =>
    lp_X2_sort_18 a b p2 n x10 R9 X))
    else none
    else none
    else
    X y3 R)
    else none
def lp_X2_sort_2 (a : Nat) (b : Nat) : Nat → Int → xN → (Int → xN → Option (xN)) → Option (xN)
  | 0, _, _, _ => none
  | n + 1, y2, R, X =>
    if (R b 1) ≤ y2 then
    X y2 R
    else
    if 12 ≤ y2 then
    X y2 R
    else
    lp_X2_sort_18 a b y2 6000 y2 R (fun z11 R12 =>
    if 0 ≤ z11 ∧ z11 < 12 then
    xlet (xup R12 (a + 1) (z11).toNat y2) (fun R14 =>
    xlet (w4 (y2 + 1)) (fun x15 =>
    lp_X2_sort_2 a b n x15 R14 X))
    else none)
def f_X2_sort (a : Nat) (b : Nat) (R : xN) : Option (xN) :=
  lp_X2_sort_2 a b 6000 0 R (fun z16 R17 =>
  some R17)
set_option maxRecDepth 20000 in
set_option maxHeartbeats 4000000 in
theorem lc_X2_sort_18 {l : Launch} {g : xG} {d : Nat} {A : xA} {a : Nat} {b : Nat} (h_a : sh 2 A a) (h_b : sh 4 A b) (p2 : Int) {X : Int → xN → Option (xN)} (hX : ∀ (y3 : Int) (R : xN), Ev l g (d + 4) mX2_sort 58 [xR a, xR b, xI p2, xI y3] [] A R (fun _ : xN => none) (fun v => v) (X y3 R)) (n : Nat) (y3 : Int) (R : xN) : Ev l g (d + 4) mX2_sort 18 [xR a, xR b, xI p2, xI y3] [] A R (fun _ : xN => none) (fun v => v) (lp_X2_sort_18 a b p2 n y3 R X) := by
  induction n generalizing y3 R with
  | zero => exact ev_none
  | succ n ih =>
    rw [lp_X2_sort_18]
    refine ev_st (pc' := 19) (L' := [xR a, xR b, xI p2, xI y3]) (st' := [xI y3]) (fun _ _ _ k => e_iload_n dX2_sort_18 rfl (i := 3) (x := y3) rfl k) ?_
    refine ev_br2 (P := y3 ≤ 0) (pct := 58) (pcf := 22) (st' := []) (fun _ _ _ kt kf => e_ifle dX2_sort_19 (tgt := 58) rfl kt kf) (fun h3 => ?_) (fun h3 => ?_)
    · exact hX y3 R
    · refine ev_st (pc' := 31) (L' := [xR a, xR b, xI p2, xI y3]) (st' := [xI (w4 (y3 - 1)), xR (a + 1), xI p2, xR b]) (fun _ _ _ k => e_aload_n dX2_sort_22 rfl (i := 1) (x := b) rfl (e_iload_n dX2_sort_23 rfl (i := 2) (x := p2) rfl (e_aload_n dX2_sort_24 rfl (i := 0) (x := a) rfl (e_getr dX2_sort_25 flX2_9 (kd2_0 h_a) rfl (rf2_0_0 h_a) (e_iload_n dX2_sort_28 rfl (i := 3) (x := y3) rfl (e_iconst dX2_sort_29 (k4 rfl) (e_isub dX2_sort_30 k))))))) ?_
      refine ev_chk (fun h4 => ?_)
      refine ev_st (pc' := 32) (L' := [xR a, xR b, xI p2, xI y3]) (st' := [xI (R (a + 1) ((w4 (y3 - 1))).toNat), xI p2, xR b]) (fun _ _ _ k => e_iald dX2_sort_31 (kd2_1 h_a) h4.1 h4.2 k) ?_
      refine ev_callV (As := [xI p2, xI (R (a + 1) ((w4 (y3 - 1))).toNat)]) (st := []) (fun v5 => [xI (xz v5)]) dX2_sort_32 mlX2_98 (kd4_0 h_b) rfl rfl rfl rfl rfl rfl (c_X4_comesBefore (d := d) h_b p2 (R (a + 1) ((w4 (y3 - 1))).toNat)) (fun _ => xz01 _) (fun _ => rfl) (fun v5 => ?_)
      refine ev_br2 (P := v5 = true) (pct := 38) (pcf := 58) (st' := []) (fun _ _ _ kt kf => e_ifeqz dX2_sort_35 (tgt := 58) rfl kt kf) (fun h6 => ?_) (fun h6 => ?_)
      · refine ev_st (pc' := 50) (L' := [xR a, xR b, xI p2, xI y3]) (st' := [xI (w4 (y3 - 1)), xR (a + 1), xI y3, xR (a + 1)]) (fun _ _ _ k => e_aload_n dX2_sort_38 rfl (i := 0) (x := a) rfl (e_getr dX2_sort_39 flX2_9 (kd2_0 h_a) rfl (rf2_0_0 h_a) (e_iload_n dX2_sort_42 rfl (i := 3) (x := y3) rfl (e_aload_n dX2_sort_43 rfl (i := 0) (x := a) rfl (e_getr dX2_sort_44 flX2_9 (kd2_0 h_a) rfl (rf2_0_0 h_a) (e_iload_n dX2_sort_47 rfl (i := 3) (x := y3) rfl (e_iconst dX2_sort_48 (k4 rfl) (e_isub dX2_sort_49 k)))))))) ?_
        refine ev_chk (fun h7 => ?_)
        refine ev_st (pc' := 51) (L' := [xR a, xR b, xI p2, xI y3]) (st' := [xI (R (a + 1) ((w4 (y3 - 1))).toNat), xI y3, xR (a + 1)]) (fun _ _ _ k => e_iald dX2_sort_50 (kd2_1 h_a) h7.1 h7.2 k) ?_
        refine ev_chk (fun h8 => ?_)
        refine ev_st (pc' := 52) (L' := [xR a, xR b, xI p2, xI y3]) (st' := []) (fun _ _ _ k => e_iast dX2_sort_51 (kd2_1 h_a) h8.1 h8.2 k) ?_
        refine ev_letR (fun R9 eR9 => ?_)
        refine ev_letx (fun x10 ex10 => ?_)
        refine ev_st (pc' := 55) (L' := [xR a, xR b, xI p2, xI x10]) (st' := []) (fun _ _ _ k => e_iinc dX2_sort_52 (i := 3) rfl (x := y3) rfl (y := x10) ex10 (L' := [xR a, xR b, xI p2, xI x10]) rfl k) ?_
        refine ev_st (pc' := 18) (L' := [xR a, xR b, xI p2, xI x10]) (st' := []) (fun _ _ _ k => e_goto dX2_sort_55 (tgt := 18) rfl k) ?_
        exact ih x10 R9
      · exact hX y3 R
set_option maxRecDepth 20000 in
set_option maxHeartbeats 4000000 in
theorem lc_X2_sort_2 {l : Launch} {g : xG} {d : Nat} {A : xA} {a : Nat} {b : Nat} (h_a : sh 2 A a) (h_b : sh 4 A b)  {X : Int → xN → Option (xN)} (hX : ∀ (y2 : Int) (R : xN), Ev l g (d + 4) mX2_sort 71 [xU, xU, xU, xU] [] A R (fun _ : xN => none) (fun v => v) (X y2 R)) (n : Nat) (y2 : Int) (R : xN) : Ev l g (d + 4) mX2_sort 2 [xR a, xR b, xI y2, xU] [] A R (fun _ : xN => none) (fun v => v) (lp_X2_sort_2 a b n y2 R X) := by
  induction n generalizing y2 R with
  | zero => exact ev_none
  | succ n ih =>
    rw [lp_X2_sort_2]
    refine ev_st (pc' := 7) (L' := [xR a, xR b, xI y2, xU]) (st' := [xI (R b 1), xI y2]) (fun _ _ _ k => e_iload_n dX2_sort_2 rfl (i := 2) (x := y2) rfl (e_aload_n dX2_sort_3 rfl (i := 1) (x := b) rfl (e_geti dX2_sort_4 flX2_52 (kd4_0 h_b) (Or.inl rfl) k))) ?_
    refine ev_br2 (P := (R b 1) ≤ y2) (pct := 71) (pcf := 10) (st' := []) (fun _ _ _ kt kf => e_cge dX2_sort_7 (tgt := 71) rfl kt kf) (fun h1 => ?_) (fun h1 => ?_)
    · refine ev_st (pc' := 71) (L' := [xU, xU, xU, xU]) (st' := []) (fun _ _ _ k => e_fg [0, 1, 2] k) ?_
      exact hX y2 R
    · refine ev_st (pc' := 13) (L' := [xR a, xR b, xI y2, xU]) (st' := [xI 12, xI y2]) (fun _ _ _ k => e_iload_n dX2_sort_10 rfl (i := 2) (x := y2) rfl (e_bipush dX2_sort_11 rfl (k4 rfl) k)) ?_
      refine ev_br2 (P := 12 ≤ y2) (pct := 71) (pcf := 16) (st' := []) (fun _ _ _ kt kf => e_cge dX2_sort_13 (tgt := 71) rfl kt kf) (fun h2 => ?_) (fun h2 => ?_)
      · refine ev_st (pc' := 71) (L' := [xU, xU, xU, xU]) (st' := []) (fun _ _ _ k => e_fg [0, 1, 2] k) ?_
        exact hX y2 R
      · refine ev_st (pc' := 18) (L' := [xR a, xR b, xI y2, xI y2]) (st' := []) (fun _ _ _ k => e_iload_n dX2_sort_16 rfl (i := 2) (x := y2) rfl (e_istore_n dX2_sort_17 rfl (i := 3) rfl (L' := [xR a, xR b, xI y2, xI y2]) rfl k)) ?_
        refine lc_X2_sort_18 h_a h_b y2 (fun z11 R12 => ?_) 6000 y2 R
        refine ev_st (pc' := 64) (L' := [xR a, xR b, xI y2, xI z11]) (st' := [xI y2, xI z11, xR (a + 1)]) (fun _ _ _ k => e_aload_n dX2_sort_58 rfl (i := 0) (x := a) rfl (e_getr dX2_sort_59 flX2_9 (kd2_0 h_a) rfl (rf2_0_0 h_a) (e_iload_n dX2_sort_62 rfl (i := 3) (x := z11) rfl (e_iload_n dX2_sort_63 rfl (i := 2) (x := y2) rfl k)))) ?_
        refine ev_chk (fun h13 => ?_)
        refine ev_st (pc' := 65) (L' := [xR a, xR b, xI y2, xI z11]) (st' := []) (fun _ _ _ k => e_iast dX2_sort_64 (kd2_1 h_a) h13.1 h13.2 k) ?_
        refine ev_letR (fun R14 eR14 => ?_)
        refine ev_letx (fun x15 ex15 => ?_)
        refine ev_st (pc' := 68) (L' := [xR a, xR b, xI x15, xI z11]) (st' := []) (fun _ _ _ k => e_iinc dX2_sort_65 (i := 2) rfl (x := y2) rfl (y := x15) ex15 (L' := [xR a, xR b, xI x15, xI z11]) rfl k) ?_
        refine ev_st (pc' := 2) (L' := [xR a, xR b, xI x15, xU]) (st' := []) (fun _ _ _ k => e_goto dX2_sort_68 (tgt := 2) rfl (e_fg [3] k)) ?_
        exact ih x15 R14
set_option maxRecDepth 20000 in
set_option maxHeartbeats 4000000 in
theorem c_X2_sort {l : Launch} {g : xG} {d : Nat} {A : xA} {R : xN} {a : Nat} {b : Nat} (h_a : sh 2 A a) (h_b : sh 4 A b)  : Ev l g (d + 4) mX2_sort 0 [xR a, xR b, xU, xU] [] A R (fun _ : xN => none) (fun v => v) (f_X2_sort a b R) := by
  rw [f_X2_sort]
  refine ev_st (pc' := 2) (L' := [xR a, xR b, xI 0, xU]) (st' := []) (fun _ _ _ k => e_iconst dX2_sort_0 (k4 rfl) (e_istore_n dX2_sort_1 rfl (i := 2) rfl (L' := [xR a, xR b, xI 0, xU]) rfl k)) ?_
  refine lc_X2_sort_2 h_a h_b (fun z16 R17 => ?_) 6000 0 R
  exact ev_ret (e_vret dX2_sort_71)
def f_X4_linesOf (a : Nat) (i0 : Int) (R : xN) : Option (Int) :=
  (f_X4_get a i0 2 R).bind (fun v1 =>
  some v1)
set_option maxRecDepth 20000 in
set_option maxHeartbeats 4000000 in
theorem c_X4_linesOf {l : Launch} {g : xG} {d : Nat} {A : xA} {R : xN} {a : Nat} (h_a : sh 4 A a) (i0 : Int) : Ev l g (d + 2) mX4_linesOf 0 [xR a, xI i0] [] A R (fun v : Int => some (xI v)) (fun _ => R) (f_X4_linesOf a i0 R) := by
  rw [f_X4_linesOf]
  refine ev_st (pc' := 3) (L' := [xR a, xI i0]) (st' := [xI 2, xI i0, xR a]) (fun _ _ _ k => e_aload_n dX4_linesOf_0 rfl (i := 0) (x := a) rfl (e_iload_n dX4_linesOf_1 rfl (i := 1) (x := i0) rfl (e_iconst dX4_linesOf_2 (k4 rfl) k))) ?_
  refine ev_callV (As := [xI i0, xI 2]) (st := []) (fun v1 => [xI v1]) dX4_linesOf_3 mlX4_33 (kd4_0 h_a) rfl rfl rfl rfl rfl rfl (c_X4_get (d := d) h_a i0 2) (fun _ => trivial) (fun _ => rfl) (fun v1 => ?_)
  exact ev_ret (e_iret dX4_linesOf_6)
def f_X4_isWhole (a : Nat) (i0 : Int) (R : xN) : Option (Bool) :=
  (f_X4_get a i0 3 R).bind (fun v1 =>
  if v1 = 1 then
  some true
  else
  some false)
set_option maxRecDepth 20000 in
set_option maxHeartbeats 4000000 in
theorem c_X4_isWhole {l : Launch} {g : xG} {d : Nat} {A : xA} {R : xN} {a : Nat} (h_a : sh 4 A a) (i0 : Int) : Ev l g (d + 2) mX4_isWhole 0 [xR a, xI i0] [] A R (fun v : Bool => some (xI (xz v))) (fun _ => R) (f_X4_isWhole a i0 R) := by
  rw [f_X4_isWhole]
  refine ev_st (pc' := 3) (L' := [xR a, xI i0]) (st' := [xI 3, xI i0, xR a]) (fun _ _ _ k => e_aload_n dX4_isWhole_0 rfl (i := 0) (x := a) rfl (e_iload_n dX4_isWhole_1 rfl (i := 1) (x := i0) rfl (e_iconst dX4_isWhole_2 (k4 rfl) k))) ?_
  refine ev_callV (As := [xI i0, xI 3]) (st := []) (fun v1 => [xI v1]) dX4_isWhole_3 mlX4_33 (kd4_0 h_a) rfl rfl rfl rfl rfl rfl (c_X4_get (d := d) h_a i0 3) (fun _ => trivial) (fun _ => rfl) (fun v1 => ?_)
  refine ev_st (pc' := 7) (L' := [xR a, xI i0]) (st' := [xI 1, xI v1]) (fun _ _ _ k => e_iconst dX4_isWhole_6 (k4 rfl) k) ?_
  refine ev_br2 (P := v1 = 1) (pct := 10) (pcf := 14) (st' := []) (fun _ _ _ kt kf => e_cne dX4_isWhole_7 (tgt := 14) rfl kt kf) (fun h2 => ?_) (fun h2 => ?_)
  · exact ev_ret (e_iconst dX4_isWhole_10 (k4 rfl) (e_goto dX4_isWhole_11 (tgt := 15) rfl (e_iret dX4_isWhole_15)))
  · exact ev_ret (e_iconst dX4_isWhole_14 (k4 rfl) (e_iret dX4_isWhole_15))
def lp_X2_roomForWhole_2 (a : Nat) (p1 : Int) (p2 : Int) (R : xN) : Nat → Int → (Int → Option (Int)) → Option (Int)
  | 0, _, _ => none
  | n + 1, y3, X =>
    if (R a 5) ≤ y3 then
    X y3
    else
    if 0 ≤ (w4 (y3 + 1)) ∧ (w4 (y3 + 1)) < 18 then
    if (R (a + 4) ((w4 (y3 + 1))).toNat) ≤ p1 then
    xlet (w4 (y3 + 1)) (fun x4 =>
    lp_X2_roomForWhole_2 a p1 p2 R n x4 X)
    else
    if 0 ≤ y3 ∧ y3 < 18 then
    xlet (if p1 < (R (a + 4) (y3).toNat) then (R (a + 4) (y3).toNat) else p1) (fun x6 =>
    if 0 ≤ (w4 (y3 + 1)) ∧ (w4 (y3 + 1)) < 18 then
    if (R (a + 4) ((w4 (y3 + 1))).toNat) < (w4 (x6 + p2)) then
    xlet (w4 (y3 + 1)) (fun x9 =>
    lp_X2_roomForWhole_2 a p1 p2 R n x9 X)
    else
    some x6
    else none)
    else none
    else none
def f_X2_roomForWhole (a : Nat) (i0 : Int) (i1 : Int) (R : xN) : Option (Int) :=
  lp_X2_roomForWhole_2 a i0 i1 R 6000 0 (fun z10 =>
  some (-9))
set_option maxRecDepth 20000 in
set_option maxHeartbeats 4000000 in
theorem lc_X2_roomForWhole_2 {l : Launch} {g : xG} {d : Nat} {A : xA} {a : Nat} (h_a : sh 2 A a) (p1 : Int) (p2 : Int) (R : xN) {X : Int → Option (Int)} (hX : ∀ (y3 : Int), Ev l g (d + 1) mX2_roomForWhole 58 [xU, xU, xU, xU, xU] [] A R (fun v : Int => some (xI v)) (fun _ => R) (X y3)) (n : Nat) (y3 : Int) : Ev l g (d + 1) mX2_roomForWhole 2 [xR a, xI p1, xI p2, xI y3, xU] [] A R (fun v : Int => some (xI v)) (fun _ => R) (lp_X2_roomForWhole_2 a p1 p2 R n y3 X) := by
  induction n generalizing y3 with
  | zero => exact ev_none
  | succ n ih =>
    rw [lp_X2_roomForWhole_2]
    refine ev_st (pc' := 7) (L' := [xR a, xI p1, xI p2, xI y3, xU]) (st' := [xI (R a 5), xI y3]) (fun _ _ _ k => e_iload_n dX2_roomForWhole_2 rfl (i := 3) (x := y3) rfl (e_aload_n dX2_roomForWhole_3 rfl (i := 0) (x := a) rfl (e_geti dX2_roomForWhole_4 flX2_28 (kd2_0 h_a) (Or.inl rfl) k))) ?_
    refine ev_br2 (P := (R a 5) ≤ y3) (pct := 58) (pcf := 10) (st' := []) (fun _ _ _ kt kf => e_cge dX2_roomForWhole_7 (tgt := 58) rfl kt kf) (fun h1 => ?_) (fun h1 => ?_)
    · refine ev_st (pc' := 58) (L' := [xU, xU, xU, xU, xU]) (st' := []) (fun _ _ _ k => e_fg [0, 1, 2, 3] k) ?_
      exact hX y3
    · refine ev_st (pc' := 17) (L' := [xR a, xI p1, xI p2, xI y3, xU]) (st' := [xI (w4 (y3 + 1)), xR (a + 4)]) (fun _ _ _ k => e_aload_n dX2_roomForWhole_10 rfl (i := 0) (x := a) rfl (e_getr dX2_roomForWhole_11 flX2_25 (kd2_0 h_a) rfl (rf2_0_4 h_a) (e_iload_n dX2_roomForWhole_14 rfl (i := 3) (x := y3) rfl (e_iconst dX2_roomForWhole_15 (k4 rfl) (e_iadd dX2_roomForWhole_16 k))))) ?_
      refine ev_chk (fun h2 => ?_)
      refine ev_st (pc' := 18) (L' := [xR a, xI p1, xI p2, xI y3, xU]) (st' := [xI (R (a + 4) ((w4 (y3 + 1))).toNat)]) (fun _ _ _ k => e_iald dX2_roomForWhole_17 (kd2_4 h_a) h2.1 h2.2 k) ?_
      refine ev_st (pc' := 19) (L' := [xR a, xI p1, xI p2, xI y3, xU]) (st' := [xI p1, xI (R (a + 4) ((w4 (y3 + 1))).toNat)]) (fun _ _ _ k => e_iload_n dX2_roomForWhole_18 rfl (i := 1) (x := p1) rfl k) ?_
      refine ev_br2 (P := (R (a + 4) ((w4 (y3 + 1))).toNat) ≤ p1) (pct := 52) (pcf := 22) (st' := []) (fun _ _ _ kt kf => e_cle dX2_roomForWhole_19 (tgt := 52) rfl kt kf) (fun h3 => ?_) (fun h3 => ?_)
      · refine ev_letx (fun x4 ex4 => ?_)
        refine ev_st (pc' := 55) (L' := [xR a, xI p1, xI p2, xI x4, xU]) (st' := []) (fun _ _ _ k => e_iinc dX2_roomForWhole_52 (i := 3) rfl (x := y3) rfl (y := x4) ex4 (L' := [xR a, xI p1, xI p2, xI x4, xU]) rfl k) ?_
        refine ev_st (pc' := 2) (L' := [xR a, xI p1, xI p2, xI x4, xU]) (st' := []) (fun _ _ _ k => e_goto dX2_roomForWhole_55 (tgt := 2) rfl k) ?_
        exact ih x4
      · refine ev_st (pc' := 28) (L' := [xR a, xI p1, xI p2, xI y3, xU]) (st' := [xI y3, xR (a + 4), xI p1]) (fun _ _ _ k => e_iload_n dX2_roomForWhole_22 rfl (i := 1) (x := p1) rfl (e_aload_n dX2_roomForWhole_23 rfl (i := 0) (x := a) rfl (e_getr dX2_roomForWhole_24 flX2_25 (kd2_0 h_a) rfl (rf2_0_4 h_a) (e_iload_n dX2_roomForWhole_27 rfl (i := 3) (x := y3) rfl k)))) ?_
        refine ev_chk (fun h5 => ?_)
        refine ev_st (pc' := 29) (L' := [xR a, xI p1, xI p2, xI y3, xU]) (st' := [xI (R (a + 4) (y3).toNat), xI p1]) (fun _ _ _ k => e_iald dX2_roomForWhole_28 (kd2_4 h_a) h5.1 h5.2 k) ?_
        refine ev_st (pc' := 32) (L' := [xR a, xI p1, xI p2, xI y3, xU]) (st' := [xI (if p1 < (R (a + 4) (y3).toNat) then (R (a + 4) (y3).toNat) else p1)]) (fun _ _ _ k => e_max dX2_roomForWhole_29 cw_718 cw_719 cw_14 cw_720 rfl k) ?_
        refine ev_leti (fun x6 ex6 => ?_)
        refine ev_st (pc' := 34) (L' := [xR a, xI p1, xI p2, xI y3, xI x6]) (st' := []) (fun _ _ _ k => e_istore dX2_roomForWhole_32 (i := 4) rfl (L' := [xR a, xI p1, xI p2, xI y3, xI x6]) rfl k) ?_
        refine ev_st (pc' := 45) (L' := [xR a, xI p1, xI p2, xI y3, xI x6]) (st' := [xI (w4 (y3 + 1)), xR (a + 4), xI (w4 (x6 + p2))]) (fun _ _ _ k => e_iload dX2_roomForWhole_34 (i := 4) (x := x6) rfl (e_iload_n dX2_roomForWhole_36 rfl (i := 2) (x := p2) rfl (e_iadd dX2_roomForWhole_37 (e_aload_n dX2_roomForWhole_38 rfl (i := 0) (x := a) rfl (e_getr dX2_roomForWhole_39 flX2_25 (kd2_0 h_a) rfl (rf2_0_4 h_a) (e_iload_n dX2_roomForWhole_42 rfl (i := 3) (x := y3) rfl (e_iconst dX2_roomForWhole_43 (k4 rfl) (e_iadd dX2_roomForWhole_44 k)))))))) ?_
        refine ev_chk (fun h7 => ?_)
        refine ev_st (pc' := 46) (L' := [xR a, xI p1, xI p2, xI y3, xI x6]) (st' := [xI (R (a + 4) ((w4 (y3 + 1))).toNat), xI (w4 (x6 + p2))]) (fun _ _ _ k => e_iald dX2_roomForWhole_45 (kd2_4 h_a) h7.1 h7.2 k) ?_
        refine ev_br2 (P := (R (a + 4) ((w4 (y3 + 1))).toNat) < (w4 (x6 + p2))) (pct := 52) (pcf := 49) (st' := []) (fun _ _ _ kt kf => e_cgt dX2_roomForWhole_46 (tgt := 52) rfl kt kf) (fun h8 => ?_) (fun h8 => ?_)
        · refine ev_letx (fun x9 ex9 => ?_)
          refine ev_st (pc' := 55) (L' := [xR a, xI p1, xI p2, xI x9, xI x6]) (st' := []) (fun _ _ _ k => e_iinc dX2_roomForWhole_52 (i := 3) rfl (x := y3) rfl (y := x9) ex9 (L' := [xR a, xI p1, xI p2, xI x9, xI x6]) rfl k) ?_
          refine ev_st (pc' := 2) (L' := [xR a, xI p1, xI p2, xI x9, xU]) (st' := []) (fun _ _ _ k => e_goto dX2_roomForWhole_55 (tgt := 2) rfl (e_fg [4] k)) ?_
          exact ih x9
        · exact ev_ret (e_iload dX2_roomForWhole_49 (i := 4) (x := x6) rfl (e_iret dX2_roomForWhole_51))
set_option maxRecDepth 20000 in
set_option maxHeartbeats 4000000 in
theorem c_X2_roomForWhole {l : Launch} {g : xG} {d : Nat} {A : xA} {R : xN} {a : Nat} (h_a : sh 2 A a) (i0 : Int) (i1 : Int) : Ev l g (d + 1) mX2_roomForWhole 0 [xR a, xI i0, xI i1, xU, xU] [] A R (fun v : Int => some (xI v)) (fun _ => R) (f_X2_roomForWhole a i0 i1 R) := by
  rw [f_X2_roomForWhole]
  refine ev_st (pc' := 2) (L' := [xR a, xI i0, xI i1, xI 0, xU]) (st' := []) (fun _ _ _ k => e_iconst dX2_roomForWhole_0 (k4 rfl) (e_istore_n dX2_roomForWhole_1 rfl (i := 3) rfl (L' := [xR a, xI i0, xI i1, xI 0, xU]) rfl k)) ?_
  refine lc_X2_roomForWhole_2 h_a i0 i1 R (fun z10 => ?_) 6000 0
  exact ev_ret (e_bipush dX2_roomForWhole_58 rfl (k4 rfl) (e_iret dX2_roomForWhole_60))
def f_X2_roomFor (a : Nat) (i0 : Int) (i1 : Int) (R : xN) : Option (Int) :=
  if 0 ≤ (R a 5) ∧ (R a 5) < 18 then
  xlet (if (R (a + 4) ((R a 5)).toNat) < (w4 (i0 + i1)) then (-9) else i0) (fun t2 =>
  some t2)
  else none
set_option maxRecDepth 20000 in
set_option maxHeartbeats 4000000 in
theorem c_X2_roomFor {l : Launch} {g : xG} {d : Nat} {A : xA} {R : xN} {a : Nat} (h_a : sh 2 A a) (i0 : Int) (i1 : Int) : Ev l g (d) mX2_roomFor 0 [xR a, xI i0, xI i1] [] A R (fun v : Int => some (xI v)) (fun _ => R) (f_X2_roomFor a i0 i1 R) := by
  rw [f_X2_roomFor]
  refine ev_st (pc' := 11) (L' := [xR a, xI i0, xI i1]) (st' := [xI (R a 5), xR (a + 4), xI (w4 (i0 + i1))]) (fun _ _ _ k => e_iload_n dX2_roomFor_0 rfl (i := 1) (x := i0) rfl (e_iload_n dX2_roomFor_1 rfl (i := 2) (x := i1) rfl (e_iadd dX2_roomFor_2 (e_aload_n dX2_roomFor_3 rfl (i := 0) (x := a) rfl (e_getr dX2_roomFor_4 flX2_25 (kd2_0 h_a) rfl (rf2_0_4 h_a) (e_aload_n dX2_roomFor_7 rfl (i := 0) (x := a) rfl (e_geti dX2_roomFor_8 flX2_28 (kd2_0 h_a) (Or.inl rfl) k))))))) ?_
  refine ev_chk (fun h1 => ?_)
  refine ev_st (pc' := 12) (L' := [xR a, xI i0, xI i1]) (st' := [xI (R (a + 4) ((R a 5)).toNat), xI (w4 (i0 + i1))]) (fun _ _ _ k => e_iald dX2_roomFor_11 (kd2_4 h_a) h1.1 h1.2 k) ?_
  refine ev_tern (P := (R (a + 4) ((R a 5)).toNat) < (w4 (i0 + i1))) (a := (-9)) (b := i0) (pct := 19) (pcf := 15) (J := 21) (st' := []) (fun _ _ _ kt kf => e_cgt dX2_roomFor_12 (tgt := 19) rfl kt kf) (fun _ _ _ k => e_bipush dX2_roomFor_19 rfl (k4 rfl) k) (fun _ _ _ k => e_iload_n dX2_roomFor_15 rfl (i := 1) (x := i0) rfl (e_goto dX2_roomFor_16 (tgt := 21) rfl k)) (fun t2 et2 => ?_)
  exact ev_ret (e_iret dX2_roomFor_21)
def f_X2_keepFirstLine (a : Nat) (i0 : Int) (i1 : Int) (R : xN) : Option (xN) :=
  (f_X9_isIn i0 0 11 R).bind (fun v1 =>
  if v1 = true then
  if 0 ≤ i0 ∧ i0 < 12 then
  xlet (xup R (a + 2) (i0).toNat i1) (fun R4 =>
  some R4)
  else none
  else
  some R)
set_option maxRecDepth 20000 in
set_option maxHeartbeats 4000000 in
theorem c_X2_keepFirstLine {l : Launch} {g : xG} {d : Nat} {A : xA} {R : xN} {a : Nat} (h_a : sh 2 A a) (i0 : Int) (i1 : Int) : Ev l g (d + 1) mX2_keepFirstLine 0 [xR a, xI i0, xI i1] [] A R (fun _ : xN => none) (fun v => v) (f_X2_keepFirstLine a i0 i1 R) := by
  rw [f_X2_keepFirstLine]
  refine ev_st (pc' := 4) (L' := [xR a, xI i0, xI i1]) (st' := [xI 11, xI 0, xI i0]) (fun _ _ _ k => e_iload_n dX2_keepFirstLine_0 rfl (i := 1) (x := i0) rfl (e_iconst dX2_keepFirstLine_1 (k4 rfl) (e_bipush dX2_keepFirstLine_2 rfl (k4 rfl) k))) ?_
  refine ev_callN (As := [xI i0, xI 0, xI 11]) (st := []) (fun v1 => [xI (xz v1)]) dX2_keepFirstLine_4 mlX2_102 rfl rfl rfl rfl rfl rfl (c_X9_isIn (d := d) i0 0 11) (fun _ => xz01 _) (fun _ => rfl) (fun v1 => ?_)
  refine ev_br2 (P := v1 = true) (pct := 10) (pcf := 17) (st' := []) (fun _ _ _ kt kf => e_ifeqz dX2_keepFirstLine_7 (tgt := 17) rfl kt kf) (fun h2 => ?_) (fun h2 => ?_)
  · refine ev_st (pc' := 16) (L' := [xR a, xI i0, xI i1]) (st' := [xI i1, xI i0, xR (a + 2)]) (fun _ _ _ k => e_aload_n dX2_keepFirstLine_10 rfl (i := 0) (x := a) rfl (e_getr dX2_keepFirstLine_11 flX2_15 (kd2_0 h_a) rfl (rf2_0_1 h_a) (e_iload_n dX2_keepFirstLine_14 rfl (i := 1) (x := i0) rfl (e_iload_n dX2_keepFirstLine_15 rfl (i := 2) (x := i1) rfl k)))) ?_
    refine ev_chk (fun h3 => ?_)
    refine ev_st (pc' := 17) (L' := [xR a, xI i0, xI i1]) (st' := []) (fun _ _ _ k => e_iast dX2_keepFirstLine_16 (kd2_2 h_a) h3.1 h3.2 k) ?_
    refine ev_letR (fun R4 eR4 => ?_)
    exact ev_ret (e_vret dX2_keepFirstLine_17)
  · exact ev_ret (e_vret dX2_keepFirstLine_17)
def lp_X2_arrange_30 (a : Nat) (b : Nat) : Nat → Int → Int → xN → (Int → Int → xN → Option (xN)) → Option (xN)
  | 0, _, _, _, _ => none
  | n + 1, y2, y3, R, X =>
    if (R (b + 11) 1) ≤ y3 then
    X y2 y3 R
    else
    if 12 ≤ y3 then
    X y2 y3 R
    else
    if 0 ≤ y3 ∧ y3 < 12 then
    xlet (R (a + 1) (y3).toNat) (fun x8 =>
    (f_X4_linesOf (b + 11) x8 R).bind (fun v9 =>
    (f_X4_isWhole (b + 11) x8 R).bind (fun v10 =>
    if v10 = true then
    (f_X2_roomForWhole a y2 v9 R).bind (fun v12 =>
    (f_X2_keepFirstLine a x8 v12 R).bind (fun v13 =>
    xlet (if v12 = (-9) then y2 else (w4 (v12 + v9))) (fun t14 =>
    xlet (w4 (y3 + 1)) (fun x15 =>
    lp_X2_arrange_30 a b n t14 x15 v13 X))))
    else
    (f_X2_roomFor a y2 v9 R).bind (fun v16 =>
    (f_X2_keepFirstLine a x8 v16 R).bind (fun v17 =>
    xlet (if v16 = (-9) then y2 else (w4 (v16 + v9))) (fun t18 =>
    xlet (w4 (y3 + 1)) (fun x19 =>
    lp_X2_arrange_30 a b n t18 x19 v17 X)))))))
    else none
def f_X2_arrange (a : Nat) (b : Nat) (R : xN) : Option (xN) :=
  xlet (xup R a 6 (R b 9)) (fun R1 =>
  (f_X2_countLines a b R1).bind (fun v2 =>
  (f_X2_listPages a b v2).bind (fun v3 =>
  (f_X2_sort a (b + 11) v3).bind (fun v4 =>
  lp_X2_arrange_30 a b 6000 0 0 v4 (fun z20 z21 R22 =>
  some R22)))))
set_option maxRecDepth 20000 in
set_option maxHeartbeats 4000000 in
theorem lc_X2_arrange_30 {l : Launch} {g : xG} {d : Nat} {A : xA} {a : Nat} {b : Nat} (h_a : sh 2 A a) (h_b : sh 0 A b)  {X : Int → Int → xN → Option (xN)} (hX : ∀ (y2 : Int) (y3 : Int) (R : xN), Ev l g (d + 5) mX2_arrange 128 [xU, xU, xU, xU, xU, xU, xU] [] A R (fun _ : xN => none) (fun v => v) (X y2 y3 R)) (n : Nat) (y2 : Int) (y3 : Int) (R : xN) : Ev l g (d + 5) mX2_arrange 30 [xR a, xR b, xI y2, xI y3, xU, xU, xU] [] A R (fun _ : xN => none) (fun v => v) (lp_X2_arrange_30 a b n y2 y3 R X) := by
  induction n generalizing y2 y3 R with
  | zero => exact ev_none
  | succ n ih =>
    rw [lp_X2_arrange_30]
    refine ev_st (pc' := 38) (L' := [xR a, xR b, xI y2, xI y3, xU, xU, xU]) (st' := [xI (R (b + 11) 1), xI y3]) (fun _ _ _ k => e_iload_n dX2_arrange_30 rfl (i := 3) (x := y3) rfl (e_aload_n dX2_arrange_31 rfl (i := 1) (x := b) rfl (e_getr dX2_arrange_32 flX2_44 (kd0_0 h_b) rfl (rf0_0_3 h_b) (e_geti dX2_arrange_35 flX2_52 (kd0_11 h_b) (Or.inl rfl) k)))) ?_
    refine ev_br2 (P := (R (b + 11) 1) ≤ y3) (pct := 128) (pcf := 41) (st' := []) (fun _ _ _ kt kf => e_cge dX2_arrange_38 (tgt := 128) rfl kt kf) (fun h5 => ?_) (fun h5 => ?_)
    · refine ev_st (pc' := 128) (L' := [xU, xU, xU, xU, xU, xU, xU]) (st' := []) (fun _ _ _ k => e_fg [0, 1, 2, 3] k) ?_
      exact hX y2 y3 R
    · refine ev_st (pc' := 44) (L' := [xR a, xR b, xI y2, xI y3, xU, xU, xU]) (st' := [xI 12, xI y3]) (fun _ _ _ k => e_iload_n dX2_arrange_41 rfl (i := 3) (x := y3) rfl (e_bipush dX2_arrange_42 rfl (k4 rfl) k)) ?_
      refine ev_br2 (P := 12 ≤ y3) (pct := 128) (pcf := 47) (st' := []) (fun _ _ _ kt kf => e_cge dX2_arrange_44 (tgt := 128) rfl kt kf) (fun h6 => ?_) (fun h6 => ?_)
      · refine ev_st (pc' := 128) (L' := [xU, xU, xU, xU, xU, xU, xU]) (st' := []) (fun _ _ _ k => e_fg [0, 1, 2, 3] k) ?_
        exact hX y2 y3 R
      · refine ev_st (pc' := 52) (L' := [xR a, xR b, xI y2, xI y3, xU, xU, xU]) (st' := [xI y3, xR (a + 1)]) (fun _ _ _ k => e_aload_n dX2_arrange_47 rfl (i := 0) (x := a) rfl (e_getr dX2_arrange_48 flX2_9 (kd2_0 h_a) rfl (rf2_0_0 h_a) (e_iload_n dX2_arrange_51 rfl (i := 3) (x := y3) rfl k))) ?_
        refine ev_chk (fun h7 => ?_)
        refine ev_st (pc' := 53) (L' := [xR a, xR b, xI y2, xI y3, xU, xU, xU]) (st' := [xI (R (a + 1) (y3).toNat)]) (fun _ _ _ k => e_iald dX2_arrange_52 (kd2_1 h_a) h7.1 h7.2 k) ?_
        refine ev_leti (fun x8 ex8 => ?_)
        refine ev_st (pc' := 55) (L' := [xR a, xR b, xI y2, xI y3, xI x8, xU, xU]) (st' := []) (fun _ _ _ k => e_istore dX2_arrange_53 (i := 4) rfl (L' := [xR a, xR b, xI y2, xI y3, xI x8, xU, xU]) rfl k) ?_
        refine ev_st (pc' := 61) (L' := [xR a, xR b, xI y2, xI y3, xI x8, xU, xU]) (st' := [xI x8, xR (b + 11)]) (fun _ _ _ k => e_aload_n dX2_arrange_55 rfl (i := 1) (x := b) rfl (e_getr dX2_arrange_56 flX2_44 (kd0_0 h_b) rfl (rf0_0_3 h_b) (e_iload dX2_arrange_59 (i := 4) (x := x8) rfl k))) ?_
        refine ev_callV (As := [xI x8]) (st := []) (fun v9 => [xI v9]) dX2_arrange_61 mlX2_57 (kd0_11 h_b) rfl rfl rfl rfl rfl rfl (c_X4_linesOf (d := d + 2) (sb0_11_4 h_b) x8) (fun _ => trivial) (fun _ => rfl) (fun v9 => ?_)
        refine ev_st (pc' := 72) (L' := [xR a, xR b, xI y2, xI y3, xI x8, xI v9, xU]) (st' := [xI x8, xR (b + 11)]) (fun _ _ _ k => e_istore dX2_arrange_64 (i := 5) rfl (L' := [xR a, xR b, xI y2, xI y3, xI x8, xI v9, xU]) rfl (e_aload_n dX2_arrange_66 rfl (i := 1) (x := b) rfl (e_getr dX2_arrange_67 flX2_44 (kd0_0 h_b) rfl (rf0_0_3 h_b) (e_iload dX2_arrange_70 (i := 4) (x := x8) rfl k)))) ?_
        refine ev_callV (As := [xI x8]) (st := []) (fun v10 => [xI (xz v10)]) dX2_arrange_72 mlX2_61 (kd0_11 h_b) rfl rfl rfl rfl rfl rfl (c_X4_isWhole (d := d + 2) (sb0_11_4 h_b) x8) (fun _ => xz01 _) (fun _ => rfl) (fun v10 => ?_)
        refine ev_br2 (P := v10 = true) (pct := 78) (pcf := 88) (st' := []) (fun _ _ _ kt kf => e_ifeqz dX2_arrange_75 (tgt := 88) rfl kt kf) (fun h11 => ?_) (fun h11 => ?_)
        · refine ev_st (pc' := 82) (L' := [xR a, xR b, xI y2, xI y3, xI x8, xI v9, xU]) (st' := [xI v9, xI y2, xR a]) (fun _ _ _ k => e_aload_n dX2_arrange_78 rfl (i := 0) (x := a) rfl (e_iload_n dX2_arrange_79 rfl (i := 2) (x := y2) rfl (e_iload dX2_arrange_80 (i := 5) (x := v9) rfl k))) ?_
          refine ev_callV (As := [xI y2, xI v9]) (st := []) (fun v12 => [xI v12]) dX2_arrange_82 mlX2_65 (kd2_0 h_a) rfl rfl rfl rfl rfl rfl (c_X2_roomForWhole (d := d + 3) h_a y2 v9) (fun _ => trivial) (fun _ => rfl) (fun v12 => ?_)
          refine ev_st (pc' := 102) (L' := [xR a, xR b, xI y2, xI y3, xI x8, xI v9, xI v12]) (st' := [xI v12, xI x8, xR a]) (fun _ _ _ k => e_goto dX2_arrange_85 (tgt := 95) rfl (e_istore dX2_arrange_95 (i := 6) rfl (L' := [xR a, xR b, xI y2, xI y3, xI x8, xI v9, xI v12]) rfl (e_aload_n dX2_arrange_97 rfl (i := 0) (x := a) rfl (e_iload dX2_arrange_98 (i := 4) (x := x8) rfl (e_iload dX2_arrange_100 (i := 6) (x := v12) rfl k))))) ?_
          refine ev_callV (As := [xI x8, xI v12]) (st := []) (fun v13 => []) dX2_arrange_102 mlX2_72 (kd2_0 h_a) rfl rfl rfl rfl rfl rfl (c_X2_keepFirstLine (d := d + 3) h_a x8 v12) (fun _ => trivial) (fun _ => rfl) (fun v13 => ?_)
          refine ev_st (pc' := 109) (L' := [xR a, xR b, xI y2, xI y3, xI x8, xI v9, xI v12]) (st' := [xI (-9), xI v12]) (fun _ _ _ k => e_iload dX2_arrange_105 (i := 6) (x := v12) rfl (e_bipush dX2_arrange_107 rfl (k4 rfl) k)) ?_
          refine ev_tern (P := v12 = (-9)) (a := y2) (b := (w4 (v12 + v9))) (pct := 112) (pcf := 116) (J := 121) (st' := []) (fun _ _ _ kt kf => e_cne dX2_arrange_109 (tgt := 116) rfl kt kf) (fun _ _ _ k => e_iload_n dX2_arrange_112 rfl (i := 2) (x := y2) rfl (e_goto dX2_arrange_113 (tgt := 121) rfl k)) (fun _ _ _ k => e_iload dX2_arrange_116 (i := 6) (x := v12) rfl (e_iload dX2_arrange_118 (i := 5) (x := v9) rfl (e_iadd dX2_arrange_120 k))) (fun t14 et14 => ?_)
          refine ev_st (pc' := 122) (L' := [xR a, xR b, xI t14, xI y3, xI x8, xI v9, xI v12]) (st' := []) (fun _ _ _ k => e_istore_n dX2_arrange_121 rfl (i := 2) rfl (L' := [xR a, xR b, xI t14, xI y3, xI x8, xI v9, xI v12]) rfl k) ?_
          refine ev_letx (fun x15 ex15 => ?_)
          refine ev_st (pc' := 125) (L' := [xR a, xR b, xI t14, xI x15, xI x8, xI v9, xI v12]) (st' := []) (fun _ _ _ k => e_iinc dX2_arrange_122 (i := 3) rfl (x := y3) rfl (y := x15) ex15 (L' := [xR a, xR b, xI t14, xI x15, xI x8, xI v9, xI v12]) rfl k) ?_
          refine ev_st (pc' := 30) (L' := [xR a, xR b, xI t14, xI x15, xU, xU, xU]) (st' := []) (fun _ _ _ k => e_goto dX2_arrange_125 (tgt := 30) rfl (e_fg [4, 5, 6] k)) ?_
          exact ih t14 x15 v13
        · refine ev_st (pc' := 92) (L' := [xR a, xR b, xI y2, xI y3, xI x8, xI v9, xU]) (st' := [xI v9, xI y2, xR a]) (fun _ _ _ k => e_aload_n dX2_arrange_88 rfl (i := 0) (x := a) rfl (e_iload_n dX2_arrange_89 rfl (i := 2) (x := y2) rfl (e_iload dX2_arrange_90 (i := 5) (x := v9) rfl k))) ?_
          refine ev_callV (As := [xI y2, xI v9]) (st := []) (fun v16 => [xI v16]) dX2_arrange_92 mlX2_69 (kd2_0 h_a) rfl rfl rfl rfl rfl rfl (c_X2_roomFor (d := d + 4) h_a y2 v9) (fun _ => trivial) (fun _ => rfl) (fun v16 => ?_)
          refine ev_st (pc' := 102) (L' := [xR a, xR b, xI y2, xI y3, xI x8, xI v9, xI v16]) (st' := [xI v16, xI x8, xR a]) (fun _ _ _ k => e_istore dX2_arrange_95 (i := 6) rfl (L' := [xR a, xR b, xI y2, xI y3, xI x8, xI v9, xI v16]) rfl (e_aload_n dX2_arrange_97 rfl (i := 0) (x := a) rfl (e_iload dX2_arrange_98 (i := 4) (x := x8) rfl (e_iload dX2_arrange_100 (i := 6) (x := v16) rfl k)))) ?_
          refine ev_callV (As := [xI x8, xI v16]) (st := []) (fun v17 => []) dX2_arrange_102 mlX2_72 (kd2_0 h_a) rfl rfl rfl rfl rfl rfl (c_X2_keepFirstLine (d := d + 3) h_a x8 v16) (fun _ => trivial) (fun _ => rfl) (fun v17 => ?_)
          refine ev_st (pc' := 109) (L' := [xR a, xR b, xI y2, xI y3, xI x8, xI v9, xI v16]) (st' := [xI (-9), xI v16]) (fun _ _ _ k => e_iload dX2_arrange_105 (i := 6) (x := v16) rfl (e_bipush dX2_arrange_107 rfl (k4 rfl) k)) ?_
          refine ev_tern (P := v16 = (-9)) (a := y2) (b := (w4 (v16 + v9))) (pct := 112) (pcf := 116) (J := 121) (st' := []) (fun _ _ _ kt kf => e_cne dX2_arrange_109 (tgt := 116) rfl kt kf) (fun _ _ _ k => e_iload_n dX2_arrange_112 rfl (i := 2) (x := y2) rfl (e_goto dX2_arrange_113 (tgt := 121) rfl k)) (fun _ _ _ k => e_iload dX2_arrange_116 (i := 6) (x := v16) rfl (e_iload dX2_arrange_118 (i := 5) (x := v9) rfl (e_iadd dX2_arrange_120 k))) (fun t18 et18 => ?_)
          refine ev_st (pc' := 122) (L' := [xR a, xR b, xI t18, xI y3, xI x8, xI v9, xI v16]) (st' := []) (fun _ _ _ k => e_istore_n dX2_arrange_121 rfl (i := 2) rfl (L' := [xR a, xR b, xI t18, xI y3, xI x8, xI v9, xI v16]) rfl k) ?_
          refine ev_letx (fun x19 ex19 => ?_)
          refine ev_st (pc' := 125) (L' := [xR a, xR b, xI t18, xI x19, xI x8, xI v9, xI v16]) (st' := []) (fun _ _ _ k => e_iinc dX2_arrange_122 (i := 3) rfl (x := y3) rfl (y := x19) ex19 (L' := [xR a, xR b, xI t18, xI x19, xI x8, xI v9, xI v16]) rfl k) ?_
          refine ev_st (pc' := 30) (L' := [xR a, xR b, xI t18, xI x19, xU, xU, xU]) (st' := []) (fun _ _ _ k => e_goto dX2_arrange_125 (tgt := 30) rfl (e_fg [4, 5, 6] k)) ?_
          exact ih t18 x19 v17
set_option maxRecDepth 20000 in
set_option maxHeartbeats 4000000 in
theorem c_X2_arrange {l : Launch} {g : xG} {d : Nat} {A : xA} {R : xN} {a : Nat} {b : Nat} (h_a : sh 2 A a) (h_b : sh 0 A b)  : Ev l g (d + 5) mX2_arrange 0 [xR a, xR b, xU, xU, xU, xU, xU] [] A R (fun _ : xN => none) (fun v => v) (f_X2_arrange a b R) := by
  rw [f_X2_arrange]
  refine ev_st (pc' := 8) (L' := [xR a, xR b, xU, xU, xU, xU, xU]) (st' := []) (fun _ _ _ k => e_aload_n dX2_arrange_0 rfl (i := 0) (x := a) rfl (e_aload_n dX2_arrange_1 rfl (i := 1) (x := b) rfl (e_geti dX2_arrange_2 flX2_34 (kd0_0 h_b) (Or.inl rfl) (e_puti dX2_arrange_5 flX2_31 (kd2_0 h_a) (Or.inl rfl) rfl k)))) ?_
  refine ev_letR (fun R1 eR1 => ?_)
  refine ev_st (pc' := 10) (L' := [xR a, xR b, xU, xU, xU, xU, xU]) (st' := [xR b, xR a]) (fun _ _ _ k => e_aload_n dX2_arrange_8 rfl (i := 0) (x := a) rfl (e_aload_n dX2_arrange_9 rfl (i := 1) (x := b) rfl k)) ?_
  refine ev_callV (As := [xR b]) (st := []) (fun v2 => []) dX2_arrange_10 mlX2_37 (kd2_0 h_a) rfl rfl rfl rfl rfl rfl (c_X2_countLines (d := d) h_a h_b) (fun _ => trivial) (fun _ => rfl) (fun v2 => ?_)
  refine ev_st (pc' := 15) (L' := [xR a, xR b, xU, xU, xU, xU, xU]) (st' := [xR b, xR a]) (fun _ _ _ k => e_aload_n dX2_arrange_13 rfl (i := 0) (x := a) rfl (e_aload_n dX2_arrange_14 rfl (i := 1) (x := b) rfl k)) ?_
  refine ev_callV (As := [xR b]) (st := []) (fun v3 => []) dX2_arrange_15 mlX2_41 (kd2_0 h_a) rfl rfl rfl rfl rfl rfl (c_X2_listPages (d := d + 2) h_a h_b) (fun _ => trivial) (fun _ => rfl) (fun v3 => ?_)
  refine ev_st (pc' := 23) (L' := [xR a, xR b, xU, xU, xU, xU, xU]) (st' := [xR (b + 11), xR a]) (fun _ _ _ k => e_aload_n dX2_arrange_18 rfl (i := 0) (x := a) rfl (e_aload_n dX2_arrange_19 rfl (i := 1) (x := b) rfl (e_getr dX2_arrange_20 flX2_44 (kd0_0 h_b) rfl (rf0_0_3 h_b) k))) ?_
  refine ev_callV (As := [xR (b + 11)]) (st := []) (fun v4 => []) dX2_arrange_23 mlX2_48 (kd2_0 h_a) rfl rfl rfl rfl rfl rfl (c_X2_sort (d := d) h_a (sb0_11_4 h_b)) (fun _ => trivial) (fun _ => rfl) (fun v4 => ?_)
  refine ev_st (pc' := 30) (L' := [xR a, xR b, xI 0, xI 0, xU, xU, xU]) (st' := []) (fun _ _ _ k => e_iconst dX2_arrange_26 (k4 rfl) (e_istore_n dX2_arrange_27 rfl (i := 2) rfl (L' := [xR a, xR b, xI 0, xU, xU, xU, xU]) rfl (e_iconst dX2_arrange_28 (k4 rfl) (e_istore_n dX2_arrange_29 rfl (i := 3) rfl (L' := [xR a, xR b, xI 0, xI 0, xU, xU, xU]) rfl k)))) ?_
  refine lc_X2_arrange_30 h_a h_b (fun z20 z21 R22 => ?_) 6000 0 0 v4
  exact ev_ret (e_vret dX2_arrange_128)
def f_X2_pageOfLine (a : Nat) (i0 : Int) (R : xN) : Option (Int) :=
  if (R a 6) < 1 then
  some (-9)
  else
  if i0 < 0 then
  some (-9)
  else
  if (R a 6) ≠ 0 then
  if (w4 (Int.tdiv i0 (R a 6))) < (R a 3) then
  if (R a 6) ≠ 0 then
  if 0 ≤ (w4 (Int.tdiv i0 (R a 6))) ∧ (w4 (Int.tdiv i0 (R a 6))) < 32 then
  some (R (a + 3) ((w4 (Int.tdiv i0 (R a 6)))).toNat)
  else none
  else none
  else
  some (-9)
  else none
set_option maxRecDepth 20000 in
set_option maxHeartbeats 4000000 in
theorem c_X2_pageOfLine {l : Launch} {g : xG} {d : Nat} {A : xA} {R : xN} {a : Nat} (h_a : sh 2 A a) (i0 : Int) : Ev l g (d) mX2_pageOfLine 0 [xR a, xI i0] [] A R (fun v : Int => some (xI v)) (fun _ => R) (f_X2_pageOfLine a i0 R) := by
  rw [f_X2_pageOfLine]
  refine ev_st (pc' := 5) (L' := [xR a, xI i0]) (st' := [xI 1, xI (R a 6)]) (fun _ _ _ k => e_aload_n dX2_pageOfLine_0 rfl (i := 0) (x := a) rfl (e_geti dX2_pageOfLine_1 flX2_31 (kd2_0 h_a) (Or.inl rfl) (e_iconst dX2_pageOfLine_4 (k4 rfl) k))) ?_
  refine ev_br2 (P := (R a 6) < 1) (pct := 25) (pcf := 8) (st' := []) (fun _ _ _ kt kf => e_clt dX2_pageOfLine_5 (tgt := 25) rfl kt kf) (fun h1 => ?_) (fun h1 => ?_)
  · exact ev_ret (e_bipush dX2_pageOfLine_25 rfl (k4 rfl) (e_iret dX2_pageOfLine_27))
  · refine ev_st (pc' := 9) (L' := [xR a, xI i0]) (st' := [xI i0]) (fun _ _ _ k => e_iload_n dX2_pageOfLine_8 rfl (i := 1) (x := i0) rfl k) ?_
    refine ev_br2 (P := i0 < 0) (pct := 25) (pcf := 12) (st' := []) (fun _ _ _ kt kf => e_iflt dX2_pageOfLine_9 (tgt := 25) rfl kt kf) (fun h2 => ?_) (fun h2 => ?_)
    · exact ev_ret (e_bipush dX2_pageOfLine_25 rfl (k4 rfl) (e_iret dX2_pageOfLine_27))
    · refine ev_st (pc' := 17) (L' := [xR a, xI i0]) (st' := [xI (R a 6), xI i0]) (fun _ _ _ k => e_iload_n dX2_pageOfLine_12 rfl (i := 1) (x := i0) rfl (e_aload_n dX2_pageOfLine_13 rfl (i := 0) (x := a) rfl (e_geti dX2_pageOfLine_14 flX2_31 (kd2_0 h_a) (Or.inl rfl) k))) ?_
      refine ev_chk (fun h3 => ?_)
      refine ev_st (pc' := 18) (L' := [xR a, xI i0]) (st' := [xI (w4 (Int.tdiv i0 (R a 6)))]) (fun _ _ _ k => e_idiv dX2_pageOfLine_17 h3 k) ?_
      refine ev_st (pc' := 22) (L' := [xR a, xI i0]) (st' := [xI (R a 3), xI (w4 (Int.tdiv i0 (R a 6)))]) (fun _ _ _ k => e_aload_n dX2_pageOfLine_18 rfl (i := 0) (x := a) rfl (e_geti dX2_pageOfLine_19 flX2_21 (kd2_0 h_a) (Or.inl rfl) k)) ?_
      refine ev_br2 (P := (w4 (Int.tdiv i0 (R a 6))) < (R a 3)) (pct := 28) (pcf := 25) (st' := []) (fun _ _ _ kt kf => e_clt dX2_pageOfLine_22 (tgt := 28) rfl kt kf) (fun h4 => ?_) (fun h4 => ?_)
      · refine ev_st (pc' := 37) (L' := [xR a, xI i0]) (st' := [xI (R a 6), xI i0, xR (a + 3)]) (fun _ _ _ k => e_aload_n dX2_pageOfLine_28 rfl (i := 0) (x := a) rfl (e_getr dX2_pageOfLine_29 flX2_18 (kd2_0 h_a) rfl (rf2_0_2 h_a) (e_iload_n dX2_pageOfLine_32 rfl (i := 1) (x := i0) rfl (e_aload_n dX2_pageOfLine_33 rfl (i := 0) (x := a) rfl (e_geti dX2_pageOfLine_34 flX2_31 (kd2_0 h_a) (Or.inl rfl) k))))) ?_
        refine ev_chk (fun h5 => ?_)
        refine ev_st (pc' := 38) (L' := [xR a, xI i0]) (st' := [xI (w4 (Int.tdiv i0 (R a 6))), xR (a + 3)]) (fun _ _ _ k => e_idiv dX2_pageOfLine_37 h5 k) ?_
        refine ev_chk (fun h6 => ?_)
        refine ev_st (pc' := 39) (L' := [xR a, xI i0]) (st' := [xI (R (a + 3) ((w4 (Int.tdiv i0 (R a 6)))).toNat)]) (fun _ _ _ k => e_iald dX2_pageOfLine_38 (kd2_3 h_a) h6.1 h6.2 k) ?_
        exact ev_ret (e_iret dX2_pageOfLine_39)
      · exact ev_ret (e_bipush dX2_pageOfLine_25 rfl (k4 rfl) (e_iret dX2_pageOfLine_27))
def lp_X2_takenOn_33 (a : Nat) (b : Nat) (p1 : Int) (p4 : Int) (p5 : Int) (R : xN) : Nat → Int → Int → (Int → Int → Option (Int)) → Option (Int)
  | 0, _, _, _ => none
  | n + 1, y3, y6, X =>
    if p5 = (-9) then
    X y3 y6
    else
    (f_X4_linesOf b p4 R).bind (fun v6 =>
    if v6 ≤ y6 then
    X y3 y6
    else
    (f_X2_pageOfLine a (w4 (p5 + y6)) R).bind (fun v8 =>
    if v8 = p1 then
    (f_X9_asNumber true R).bind (fun v10 =>
    xlet (w4 (y3 + v10)) (fun x11 =>
    xlet (w4 (y6 + 1)) (fun x12 =>
    lp_X2_takenOn_33 a b p1 p4 p5 R n x11 x12 X)))
    else
    (f_X9_asNumber false R).bind (fun v13 =>
    xlet (w4 (y3 + v13)) (fun x14 =>
    xlet (w4 (y6 + 1)) (fun x15 =>
    lp_X2_takenOn_33 a b p1 p4 p5 R n x14 x15 X)))))
def lp_X2_takenOn_5 (a : Nat) (b : Nat) (p1 : Int) (R : xN) : Nat → Int → Int → (Int → Int → Option (Int)) → Option (Int)
  | 0, _, _, _ => none
  | n + 1, y3, y4, X =>
    if (R b 1) ≤ y4 then
    X y3 y4
    else
    if 12 ≤ y4 then
    X y3 y4
    else
    if 0 ≤ y4 ∧ y4 < 12 then
    xlet (R (a + 2) (y4).toNat) (fun x4 =>
    lp_X2_takenOn_33 a b p1 y4 x4 R 6000 y3 0 (fun z16 z17 =>
    xlet (w4 (y4 + 1)) (fun x18 =>
    lp_X2_takenOn_5 a b p1 R n z16 x18 X)))
    else none
def f_X2_takenOn (a : Nat) (i0 : Int) (b : Nat) (R : xN) : Option (Int) :=
  lp_X2_takenOn_5 a b i0 R 6000 0 0 (fun z19 z20 =>
  some z19)
set_option maxRecDepth 20000 in
set_option maxHeartbeats 4000000 in
theorem lc_X2_takenOn_33 {l : Launch} {g : xG} {d : Nat} {A : xA} {a : Nat} {b : Nat} (h_a : sh 2 A a) (h_b : sh 4 A b) (p1 : Int) (p4 : Int) (p5 : Int) (R : xN) {X : Int → Int → Option (Int)} (hX : ∀ (y3 : Int) (y6 : Int), Ev l g (d + 3) mX2_takenOn 81 [xR a, xI p1, xR b, xI y3, xI p4, xU, xU] [] A R (fun v : Int => some (xI v)) (fun _ => R) (X y3 y6)) (n : Nat) (y3 : Int) (y6 : Int) : Ev l g (d + 3) mX2_takenOn 33 [xR a, xI p1, xR b, xI y3, xI p4, xI p5, xI y6] [] A R (fun v : Int => some (xI v)) (fun _ => R) (lp_X2_takenOn_33 a b p1 p4 p5 R n y3 y6 X) := by
  induction n generalizing y3 y6 with
  | zero => exact ev_none
  | succ n ih =>
    rw [lp_X2_takenOn_33]
    refine ev_st (pc' := 37) (L' := [xR a, xI p1, xR b, xI y3, xI p4, xI p5, xI y6]) (st' := [xI (-9), xI p5]) (fun _ _ _ k => e_iload dX2_takenOn_33 (i := 5) (x := p5) rfl (e_bipush dX2_takenOn_35 rfl (k4 rfl) k)) ?_
    refine ev_br2 (P := p5 = (-9)) (pct := 81) (pcf := 40) (st' := []) (fun _ _ _ kt kf => e_ceq dX2_takenOn_37 (tgt := 81) rfl kt kf) (fun h5 => ?_) (fun h5 => ?_)
    · refine ev_st (pc' := 81) (L' := [xR a, xI p1, xR b, xI y3, xI p4, xU, xU]) (st' := []) (fun _ _ _ k => e_fg [5, 6] k) ?_
      exact hX y3 y6
    · refine ev_st (pc' := 45) (L' := [xR a, xI p1, xR b, xI y3, xI p4, xI p5, xI y6]) (st' := [xI p4, xR b, xI y6]) (fun _ _ _ k => e_iload dX2_takenOn_40 (i := 6) (x := y6) rfl (e_aload_n dX2_takenOn_42 rfl (i := 2) (x := b) rfl (e_iload dX2_takenOn_43 (i := 4) (x := p4) rfl k))) ?_
      refine ev_callV (As := [xI p4]) (st := [xI y6]) (fun v6 => [xI v6, xI y6]) dX2_takenOn_45 mlX2_57 (kd4_0 h_b) rfl rfl rfl rfl rfl rfl (c_X4_linesOf (d := d) h_b p4) (fun _ => trivial) (fun _ => rfl) (fun v6 => ?_)
      refine ev_br2 (P := v6 ≤ y6) (pct := 81) (pcf := 51) (st' := []) (fun _ _ _ kt kf => e_cge dX2_takenOn_48 (tgt := 81) rfl kt kf) (fun h7 => ?_) (fun h7 => ?_)
      · refine ev_st (pc' := 81) (L' := [xR a, xI p1, xR b, xI y3, xI p4, xU, xU]) (st' := []) (fun _ _ _ k => e_fg [5, 6] k) ?_
        exact hX y3 y6
      · refine ev_st (pc' := 58) (L' := [xR a, xI p1, xR b, xI y3, xI p4, xI p5, xI y6]) (st' := [xI (w4 (p5 + y6)), xR a, xI y3]) (fun _ _ _ k => e_iload_n dX2_takenOn_51 rfl (i := 3) (x := y3) rfl (e_aload_n dX2_takenOn_52 rfl (i := 0) (x := a) rfl (e_iload dX2_takenOn_53 (i := 5) (x := p5) rfl (e_iload dX2_takenOn_55 (i := 6) (x := y6) rfl (e_iadd dX2_takenOn_57 k))))) ?_
        refine ev_callV (As := [xI (w4 (p5 + y6))]) (st := [xI y3]) (fun v8 => [xI v8, xI y3]) dX2_takenOn_58 mlX2_112 (kd2_0 h_a) rfl rfl rfl rfl rfl rfl (c_X2_pageOfLine (d := d + 2) h_a (w4 (p5 + y6))) (fun _ => trivial) (fun _ => rfl) (fun v8 => ?_)
        refine ev_st (pc' := 62) (L' := [xR a, xI p1, xR b, xI y3, xI p4, xI p5, xI y6]) (st' := [xI p1, xI v8, xI y3]) (fun _ _ _ k => e_iload_n dX2_takenOn_61 rfl (i := 1) (x := p1) rfl k) ?_
        refine ev_br2 (P := v8 = p1) (pct := 65) (pcf := 69) (st' := [xI y3]) (fun _ _ _ kt kf => e_cne dX2_takenOn_62 (tgt := 69) rfl kt kf) (fun h9 => ?_) (fun h9 => ?_)
        · refine ev_st (pc' := 70) (L' := [xR a, xI p1, xR b, xI y3, xI p4, xI p5, xI y6]) (st' := [xI 1, xI y3]) (fun _ _ _ k => e_iconst dX2_takenOn_65 (k4 rfl) (e_goto dX2_takenOn_66 (tgt := 70) rfl k)) ?_
          refine ev_callN (As := [xI 1]) (st := [xI y3]) (fun v10 => [xI v10, xI y3]) dX2_takenOn_70 mlX2_115 rfl rfl rfl rfl rfl rfl (c_X9_asNumber (d := d + 2) true) (fun _ => trivial) (fun _ => rfl) (fun v10 => ?_)
          refine ev_st (pc' := 74) (L' := [xR a, xI p1, xR b, xI y3, xI p4, xI p5, xI y6]) (st' := [xI (w4 (y3 + v10))]) (fun _ _ _ k => e_iadd dX2_takenOn_73 k) ?_
          refine ev_leti (fun x11 ex11 => ?_)
          refine ev_st (pc' := 75) (L' := [xR a, xI p1, xR b, xI x11, xI p4, xI p5, xI y6]) (st' := []) (fun _ _ _ k => e_istore_n dX2_takenOn_74 rfl (i := 3) rfl (L' := [xR a, xI p1, xR b, xI x11, xI p4, xI p5, xI y6]) rfl k) ?_
          refine ev_letx (fun x12 ex12 => ?_)
          refine ev_st (pc' := 78) (L' := [xR a, xI p1, xR b, xI x11, xI p4, xI p5, xI x12]) (st' := []) (fun _ _ _ k => e_iinc dX2_takenOn_75 (i := 6) rfl (x := y6) rfl (y := x12) ex12 (L' := [xR a, xI p1, xR b, xI x11, xI p4, xI p5, xI x12]) rfl k) ?_
          refine ev_st (pc' := 33) (L' := [xR a, xI p1, xR b, xI x11, xI p4, xI p5, xI x12]) (st' := []) (fun _ _ _ k => e_goto dX2_takenOn_78 (tgt := 33) rfl k) ?_
          exact ih x11 x12
        · refine ev_st (pc' := 70) (L' := [xR a, xI p1, xR b, xI y3, xI p4, xI p5, xI y6]) (st' := [xI 0, xI y3]) (fun _ _ _ k => e_iconst dX2_takenOn_69 (k4 rfl) k) ?_
          refine ev_callN (As := [xI 0]) (st := [xI y3]) (fun v13 => [xI v13, xI y3]) dX2_takenOn_70 mlX2_115 rfl rfl rfl rfl rfl rfl (c_X9_asNumber (d := d + 2) false) (fun _ => trivial) (fun _ => rfl) (fun v13 => ?_)
          refine ev_st (pc' := 74) (L' := [xR a, xI p1, xR b, xI y3, xI p4, xI p5, xI y6]) (st' := [xI (w4 (y3 + v13))]) (fun _ _ _ k => e_iadd dX2_takenOn_73 k) ?_
          refine ev_leti (fun x14 ex14 => ?_)
          refine ev_st (pc' := 75) (L' := [xR a, xI p1, xR b, xI x14, xI p4, xI p5, xI y6]) (st' := []) (fun _ _ _ k => e_istore_n dX2_takenOn_74 rfl (i := 3) rfl (L' := [xR a, xI p1, xR b, xI x14, xI p4, xI p5, xI y6]) rfl k) ?_
          refine ev_letx (fun x15 ex15 => ?_)
          refine ev_st (pc' := 78) (L' := [xR a, xI p1, xR b, xI x14, xI p4, xI p5, xI x15]) (st' := []) (fun _ _ _ k => e_iinc dX2_takenOn_75 (i := 6) rfl (x := y6) rfl (y := x15) ex15 (L' := [xR a, xI p1, xR b, xI x14, xI p4, xI p5, xI x15]) rfl k) ?_
          refine ev_st (pc' := 33) (L' := [xR a, xI p1, xR b, xI x14, xI p4, xI p5, xI x15]) (st' := []) (fun _ _ _ k => e_goto dX2_takenOn_78 (tgt := 33) rfl k) ?_
          exact ih x14 x15
set_option maxRecDepth 20000 in
set_option maxHeartbeats 4000000 in
theorem lc_X2_takenOn_5 {l : Launch} {g : xG} {d : Nat} {A : xA} {a : Nat} {b : Nat} (h_a : sh 2 A a) (h_b : sh 4 A b) (p1 : Int) (R : xN) {X : Int → Int → Option (Int)} (hX : ∀ (y3 : Int) (y4 : Int), Ev l g (d + 3) mX2_takenOn 87 [xU, xU, xU, xI y3, xU, xU, xU] [] A R (fun v : Int => some (xI v)) (fun _ => R) (X y3 y4)) (n : Nat) (y3 : Int) (y4 : Int) : Ev l g (d + 3) mX2_takenOn 5 [xR a, xI p1, xR b, xI y3, xI y4, xU, xU] [] A R (fun v : Int => some (xI v)) (fun _ => R) (lp_X2_takenOn_5 a b p1 R n y3 y4 X) := by
  induction n generalizing y3 y4 with
  | zero => exact ev_none
  | succ n ih =>
    rw [lp_X2_takenOn_5]
    refine ev_st (pc' := 11) (L' := [xR a, xI p1, xR b, xI y3, xI y4, xU, xU]) (st' := [xI (R b 1), xI y4]) (fun _ _ _ k => e_iload dX2_takenOn_5 (i := 4) (x := y4) rfl (e_aload_n dX2_takenOn_7 rfl (i := 2) (x := b) rfl (e_geti dX2_takenOn_8 flX2_52 (kd4_0 h_b) (Or.inl rfl) k))) ?_
    refine ev_br2 (P := (R b 1) ≤ y4) (pct := 87) (pcf := 14) (st' := []) (fun _ _ _ kt kf => e_cge dX2_takenOn_11 (tgt := 87) rfl kt kf) (fun h1 => ?_) (fun h1 => ?_)
    · refine ev_st (pc' := 87) (L' := [xU, xU, xU, xI y3, xU, xU, xU]) (st' := []) (fun _ _ _ k => e_fg [0, 1, 2, 4] k) ?_
      exact hX y3 y4
    · refine ev_st (pc' := 18) (L' := [xR a, xI p1, xR b, xI y3, xI y4, xU, xU]) (st' := [xI 12, xI y4]) (fun _ _ _ k => e_iload dX2_takenOn_14 (i := 4) (x := y4) rfl (e_bipush dX2_takenOn_16 rfl (k4 rfl) k)) ?_
      refine ev_br2 (P := 12 ≤ y4) (pct := 87) (pcf := 21) (st' := []) (fun _ _ _ kt kf => e_cge dX2_takenOn_18 (tgt := 87) rfl kt kf) (fun h2 => ?_) (fun h2 => ?_)
      · refine ev_st (pc' := 87) (L' := [xU, xU, xU, xI y3, xU, xU, xU]) (st' := []) (fun _ _ _ k => e_fg [0, 1, 2, 4] k) ?_
        exact hX y3 y4
      · refine ev_st (pc' := 27) (L' := [xR a, xI p1, xR b, xI y3, xI y4, xU, xU]) (st' := [xI y4, xR (a + 2)]) (fun _ _ _ k => e_aload_n dX2_takenOn_21 rfl (i := 0) (x := a) rfl (e_getr dX2_takenOn_22 flX2_15 (kd2_0 h_a) rfl (rf2_0_1 h_a) (e_iload dX2_takenOn_25 (i := 4) (x := y4) rfl k))) ?_
        refine ev_chk (fun h3 => ?_)
        refine ev_st (pc' := 28) (L' := [xR a, xI p1, xR b, xI y3, xI y4, xU, xU]) (st' := [xI (R (a + 2) (y4).toNat)]) (fun _ _ _ k => e_iald dX2_takenOn_27 (kd2_2 h_a) h3.1 h3.2 k) ?_
        refine ev_leti (fun x4 ex4 => ?_)
        refine ev_st (pc' := 30) (L' := [xR a, xI p1, xR b, xI y3, xI y4, xI x4, xU]) (st' := []) (fun _ _ _ k => e_istore dX2_takenOn_28 (i := 5) rfl (L' := [xR a, xI p1, xR b, xI y3, xI y4, xI x4, xU]) rfl k) ?_
        refine ev_st (pc' := 33) (L' := [xR a, xI p1, xR b, xI y3, xI y4, xI x4, xI 0]) (st' := []) (fun _ _ _ k => e_iconst dX2_takenOn_30 (k4 rfl) (e_istore dX2_takenOn_31 (i := 6) rfl (L' := [xR a, xI p1, xR b, xI y3, xI y4, xI x4, xI 0]) rfl k)) ?_
        refine lc_X2_takenOn_33 h_a h_b p1 y4 x4 R (fun z16 z17 => ?_) 6000 y3 0
        refine ev_letx (fun x18 ex18 => ?_)
        refine ev_st (pc' := 84) (L' := [xR a, xI p1, xR b, xI z16, xI x18, xU, xU]) (st' := []) (fun _ _ _ k => e_iinc dX2_takenOn_81 (i := 4) rfl (x := y4) rfl (y := x18) ex18 (L' := [xR a, xI p1, xR b, xI z16, xI x18, xU, xU]) rfl k) ?_
        refine ev_st (pc' := 5) (L' := [xR a, xI p1, xR b, xI z16, xI x18, xU, xU]) (st' := []) (fun _ _ _ k => e_goto dX2_takenOn_84 (tgt := 5) rfl k) ?_
        exact ih z16 x18
set_option maxRecDepth 20000 in
set_option maxHeartbeats 4000000 in
theorem c_X2_takenOn {l : Launch} {g : xG} {d : Nat} {A : xA} {R : xN} {a : Nat} {b : Nat} (h_a : sh 2 A a) (h_b : sh 4 A b) (i0 : Int) : Ev l g (d + 3) mX2_takenOn 0 [xR a, xI i0, xR b, xU, xU, xU, xU] [] A R (fun v : Int => some (xI v)) (fun _ => R) (f_X2_takenOn a i0 b R) := by
  rw [f_X2_takenOn]
  refine ev_st (pc' := 5) (L' := [xR a, xI i0, xR b, xI 0, xI 0, xU, xU]) (st' := []) (fun _ _ _ k => e_iconst dX2_takenOn_0 (k4 rfl) (e_istore_n dX2_takenOn_1 rfl (i := 3) rfl (L' := [xR a, xI i0, xR b, xI 0, xU, xU, xU]) rfl (e_iconst dX2_takenOn_2 (k4 rfl) (e_istore dX2_takenOn_3 (i := 4) rfl (L' := [xR a, xI i0, xR b, xI 0, xI 0, xU, xU]) rfl k)))) ?_
  refine lc_X2_takenOn_5 h_a h_b i0 R (fun z19 z20 => ?_) 6000 0 0
  exact ev_ret (e_iload_n dX2_takenOn_87 rfl (i := 3) (x := z19) rfl (e_iret dX2_takenOn_88))
def f_X3_sideUpAt (a : Nat) (i0 : Int) (R : xN) : Option (Int) :=
  (f_X3_at a i0 R).bind (fun v1 =>
  (f_X3_sideUp v1 R).bind (fun v2 =>
  some v2))
set_option maxRecDepth 20000 in
set_option maxHeartbeats 4000000 in
theorem c_X3_sideUpAt {l : Launch} {g : xG} {d : Nat} {A : xA} {R : xN} {a : Nat} (h_a : sh 3 A a) (i0 : Int) : Ev l g (d + 1) mX3_sideUpAt 0 [xR a, xI i0] [] A R (fun v : Int => some (xI v)) (fun _ => R) (f_X3_sideUpAt a i0 R) := by
  rw [f_X3_sideUpAt]
  refine ev_st (pc' := 2) (L' := [xR a, xI i0]) (st' := [xI i0, xR a]) (fun _ _ _ k => e_aload_n dX3_sideUpAt_0 rfl (i := 0) (x := a) rfl (e_iload_n dX3_sideUpAt_1 rfl (i := 1) (x := i0) rfl k)) ?_
  refine ev_callV (As := [xI i0]) (st := []) (fun v1 => [xI v1]) dX3_sideUpAt_2 mlX3_55 (kd3_0 h_a) rfl rfl rfl rfl rfl rfl (c_X3_at (d := d) h_a i0) (fun _ => trivial) (fun _ => rfl) (fun v1 => ?_)
  refine ev_callS (As := [xI v1]) (st := []) (fun v2 => [xI v2]) dX3_sideUpAt_5 mlX3_85 rfl rfl rfl rfl rfl rfl (c_X3_sideUp (d := d) v1) (fun _ => trivial) (fun _ => rfl) (fun v2 => ?_)
  exact ev_ret (e_iret dX3_sideUpAt_8)
def f_X3_sideOfPage (a : Nat) (i0 : Int) (R : xN) : Option (Int) :=
  (f_X3_sideUpAt a (w4 (Int.tdiv i0 2)) R).bind (fun v1 =>
  some (b4xor v1 (b4and i0 1)))
set_option maxRecDepth 20000 in
set_option maxHeartbeats 4000000 in
theorem c_X3_sideOfPage {l : Launch} {g : xG} {d : Nat} {A : xA} {R : xN} {a : Nat} (h_a : sh 3 A a) (i0 : Int) : Ev l g (d + 2) mX3_sideOfPage 0 [xR a, xI i0] [] A R (fun v : Int => some (xI v)) (fun _ => R) (f_X3_sideOfPage a i0 R) := by
  rw [f_X3_sideOfPage]
  refine ev_st (pc' := 4) (L' := [xR a, xI i0]) (st' := [xI (w4 (Int.tdiv i0 2)), xR a]) (fun _ _ _ k => e_aload_n dX3_sideOfPage_0 rfl (i := 0) (x := a) rfl (e_iload_n dX3_sideOfPage_1 rfl (i := 1) (x := i0) rfl (e_iconst dX3_sideOfPage_2 (k4 rfl) (e_idiv dX3_sideOfPage_3 (by decide) k)))) ?_
  refine ev_callV (As := [xI (w4 (Int.tdiv i0 2))]) (st := []) (fun v1 => [xI v1]) dX3_sideOfPage_4 mlX3_88 (kd3_0 h_a) rfl rfl rfl rfl rfl rfl (c_X3_sideUpAt (d := d) h_a (w4 (Int.tdiv i0 2))) (fun _ => trivial) (fun _ => rfl) (fun v1 => ?_)
  exact ev_ret (e_iload_n dX3_sideOfPage_7 rfl (i := 1) (x := i0) rfl (e_iconst dX3_sideOfPage_8 (k4 rfl) (e_iand dX3_sideOfPage_9 (e_ixor dX3_sideOfPage_10 (e_iret dX3_sideOfPage_11)))))
def f_X5_hasSide (a : Nat) (i0 : Int) (i1 : Int) (i2 : Int) (R : xN) : Option (Bool) :=
  (f_X9_isIn i0 0 (w4 ((R a 0) - 1)) R).bind (fun v1 =>
  if v1 = true then
  (f_X9_isIn i1 0 (w4 ((R a 1) - 1)) R).bind (fun v3 =>
  if v3 = true then
  (f_X9_isIn i2 0 1 R).bind (fun v5 =>
  if v5 = true then
  some true
  else
  some false)
  else
  some false)
  else
  some false)
set_option maxRecDepth 20000 in
set_option maxHeartbeats 4000000 in
theorem c_X5_hasSide {l : Launch} {g : xG} {d : Nat} {A : xA} {R : xN} {a : Nat} (h_a : sh 5 A a) (i0 : Int) (i1 : Int) (i2 : Int) : Ev l g (d + 1) mX5_hasSide 0 [xR a, xI i0, xI i1, xI i2] [] A R (fun v : Bool => some (xI (xz v))) (fun _ => R) (f_X5_hasSide a i0 i1 i2 R) := by
  rw [f_X5_hasSide]
  refine ev_st (pc' := 8) (L' := [xR a, xI i0, xI i1, xI i2]) (st' := [xI (w4 ((R a 0) - 1)), xI 0, xI i0]) (fun _ _ _ k => e_iload_n dX5_hasSide_0 rfl (i := 1) (x := i0) rfl (e_iconst dX5_hasSide_1 (k4 rfl) (e_aload_n dX5_hasSide_2 rfl (i := 0) (x := a) rfl (e_geti dX5_hasSide_3 flX5_9 (kd5_0 h_a) (Or.inl rfl) (e_iconst dX5_hasSide_6 (k4 rfl) (e_isub dX5_hasSide_7 k)))))) ?_
  refine ev_callN (As := [xI i0, xI 0, xI (w4 ((R a 0) - 1))]) (st := []) (fun v1 => [xI (xz v1)]) dX5_hasSide_8 mlX5_37 rfl rfl rfl rfl rfl rfl (c_X9_isIn (d := d) i0 0 (w4 ((R a 0) - 1))) (fun _ => xz01 _) (fun _ => rfl) (fun v1 => ?_)
  refine ev_br2 (P := v1 = true) (pct := 14) (pcf := 41) (st' := []) (fun _ _ _ kt kf => e_ifeqz dX5_hasSide_11 (tgt := 41) rfl kt kf) (fun h2 => ?_) (fun h2 => ?_)
  · refine ev_st (pc' := 22) (L' := [xR a, xI i0, xI i1, xI i2]) (st' := [xI (w4 ((R a 1) - 1)), xI 0, xI i1]) (fun _ _ _ k => e_iload_n dX5_hasSide_14 rfl (i := 2) (x := i1) rfl (e_iconst dX5_hasSide_15 (k4 rfl) (e_aload_n dX5_hasSide_16 rfl (i := 0) (x := a) rfl (e_geti dX5_hasSide_17 flX5_15 (kd5_0 h_a) (Or.inl rfl) (e_iconst dX5_hasSide_20 (k4 rfl) (e_isub dX5_hasSide_21 k)))))) ?_
    refine ev_callN (As := [xI i1, xI 0, xI (w4 ((R a 1) - 1))]) (st := []) (fun v3 => [xI (xz v3)]) dX5_hasSide_22 mlX5_37 rfl rfl rfl rfl rfl rfl (c_X9_isIn (d := d) i1 0 (w4 ((R a 1) - 1))) (fun _ => xz01 _) (fun _ => rfl) (fun v3 => ?_)
    refine ev_br2 (P := v3 = true) (pct := 28) (pcf := 41) (st' := []) (fun _ _ _ kt kf => e_ifeqz dX5_hasSide_25 (tgt := 41) rfl kt kf) (fun h4 => ?_) (fun h4 => ?_)
    · refine ev_st (pc' := 31) (L' := [xR a, xI i0, xI i1, xI i2]) (st' := [xI 1, xI 0, xI i2]) (fun _ _ _ k => e_iload_n dX5_hasSide_28 rfl (i := 3) (x := i2) rfl (e_iconst dX5_hasSide_29 (k4 rfl) (e_iconst dX5_hasSide_30 (k4 rfl) k))) ?_
      refine ev_callN (As := [xI i2, xI 0, xI 1]) (st := []) (fun v5 => [xI (xz v5)]) dX5_hasSide_31 mlX5_37 rfl rfl rfl rfl rfl rfl (c_X9_isIn (d := d) i2 0 1) (fun _ => xz01 _) (fun _ => rfl) (fun v5 => ?_)
      refine ev_br2 (P := v5 = true) (pct := 37) (pcf := 41) (st' := []) (fun _ _ _ kt kf => e_ifeqz dX5_hasSide_34 (tgt := 41) rfl kt kf) (fun h6 => ?_) (fun h6 => ?_)
      · exact ev_ret (e_iconst dX5_hasSide_37 (k4 rfl) (e_goto dX5_hasSide_38 (tgt := 42) rfl (e_iret dX5_hasSide_42)))
      · exact ev_ret (e_iconst dX5_hasSide_41 (k4 rfl) (e_iret dX5_hasSide_42))
    · exact ev_ret (e_iconst dX5_hasSide_41 (k4 rfl) (e_iret dX5_hasSide_42))
  · exact ev_ret (e_iconst dX5_hasSide_41 (k4 rfl) (e_iret dX5_hasSide_42))
def f_X8_fillSlot (a : Nat) (i0 : Int) (R : xN) : Option (Int × xN) :=
  (f_X9_isIn i0 0 1 R).bind (fun v1 =>
  if v1 = true then
  if 0 ≤ i0 ∧ i0 < 2 then
  (f_X0_copyFrom (a + 16 + 14 * (i0).toNat) (a + 1) R).bind (fun v4 =>
  xlet (xup v4 a 2 (b4or (v4 a 2) (b4shl 1 i0))) (fun R5 =>
  some ((R5 (a + 5) 5), R5)))
  else none
  else
  some ((-1), R))
set_option maxRecDepth 20000 in
set_option maxHeartbeats 4000000 in
theorem c_X8_fillSlot {l : Launch} {g : xG} {d : Nat} {A : xA} {R : xN} {a : Nat} (h_a : sh 8 A a) (i0 : Int) : Ev l g (d + 3) mX8_fillSlot 0 [xR a, xI i0] [] A R (fun v : Int × xN => some (xI v.1)) (fun v => v.2) (f_X8_fillSlot a i0 R) := by
  rw [f_X8_fillSlot]
  refine ev_st (pc' := 3) (L' := [xR a, xI i0]) (st' := [xI 1, xI 0, xI i0]) (fun _ _ _ k => e_iload_n dX8_fillSlot_0 rfl (i := 1) (x := i0) rfl (e_iconst dX8_fillSlot_1 (k4 rfl) (e_iconst dX8_fillSlot_2 (k4 rfl) k))) ?_
  refine ev_callN (As := [xI i0, xI 0, xI 1]) (st := []) (fun v1 => [xI (xz v1)]) dX8_fillSlot_3 mlX8_34 rfl rfl rfl rfl rfl rfl (c_X9_isIn (d := d + 2) i0 0 1) (fun _ => xz01 _) (fun _ => rfl) (fun v1 => ?_)
  refine ev_br2 (P := v1 = true) (pct := 11) (pcf := 9) (st' := []) (fun _ _ _ kt kf => e_ifnez dX8_fillSlot_6 (tgt := 11) rfl kt kf) (fun h2 => ?_) (fun h2 => ?_)
  · refine ev_st (pc' := 16) (L' := [xR a, xI i0]) (st' := [xI i0, xR (a + 15)]) (fun _ _ _ k => e_aload_n dX8_fillSlot_11 rfl (i := 0) (x := a) rfl (e_getr dX8_fillSlot_12 flX8_18 (kd8_0 h_a) rfl (rf8_0_1 h_a) (e_iload_n dX8_fillSlot_15 rfl (i := 1) (x := i0) rfl k))) ?_
    refine ev_chk (fun h3 => ?_)
    refine ev_st (pc' := 17) (L' := [xR a, xI i0]) (st' := [xR (a + 16 + 14 * (i0).toNat)]) (fun _ _ _ k => e_aald2 dX8_fillSlot_16 (kd8_15 h_a) h3.1 h3.2 (slot_at h_a h3.1 h3.2) k) ?_
    refine ev_st (pc' := 21) (L' := [xR a, xI i0]) (st' := [xR (a + 1), xR (a + 16 + 14 * (i0).toNat)]) (fun _ _ _ k => e_aload_n dX8_fillSlot_17 rfl (i := 0) (x := a) rfl (e_getr dX8_fillSlot_18 flX8_12 (kd8_0 h_a) rfl (rf8_0_0 h_a) k)) ?_
    refine ev_callV (As := [xR (a + 1)]) (st := []) (fun v4 => []) dX8_fillSlot_21 mlX8_26 (kd0_0 (slot_sh h_a h3.1 h3.2)) rfl rfl rfl rfl rfl rfl (c_X0_copyFrom (d := d) (slot_sh h_a h3.1 h3.2) (sb8_1_0 h_a)) (fun _ => trivial) (fun _ => rfl) (fun v4 => ?_)
    refine ev_st (pc' := 36) (L' := [xR a, xI i0]) (st' := []) (fun _ _ _ k => e_aload_n dX8_fillSlot_24 rfl (i := 0) (x := a) rfl (e_dupR dX8_fillSlot_25 (e_geti dX8_fillSlot_26 flX8_22 (kd8_0 h_a) (Or.inl rfl) (e_iconst dX8_fillSlot_29 (k4 rfl) (e_iload_n dX8_fillSlot_30 rfl (i := 1) (x := i0) rfl (e_ishl dX8_fillSlot_31 (e_ior dX8_fillSlot_32 (e_puti dX8_fillSlot_33 flX8_22 (kd8_0 h_a) (Or.inl rfl) rfl k)))))))) ?_
    refine ev_letR (fun R5 eR5 => ?_)
    exact ev_ret (e_aload_n dX8_fillSlot_36 rfl (i := 0) (x := a) rfl (e_getr dX8_fillSlot_37 flX8_12 (kd8_0 h_a) rfl (rf8_0_0 h_a) (e_getr dX8_fillSlot_40 flX8_38 (kd8_1 h_a) rfl (rf8_1_1 h_a) (e_geti dX8_fillSlot_43 flX8_42 (kd8_5 h_a) (Or.inl rfl) (e_iret dX8_fillSlot_46)))))
  · exact ev_ret (e_iconst dX8_fillSlot_9 (k4 rfl) (e_iret dX8_fillSlot_10))
def f_X8_useSlot (a : Nat) (i0 : Int) (R : xN) : Option (Int × xN) :=
  (f_X9_isIn i0 0 1 R).bind (fun v1 =>
  if v1 = true then
  (f_X9_isInSet i0 (R a 2) R).bind (fun v3 =>
  if v3 = true then
  if 0 ≤ i0 ∧ i0 < 2 then
  (f_X0_copyFrom (a + 1) (a + 16 + 14 * (i0).toNat) R).bind (fun v6 =>
  some ((v6 (a + 5) 5), v6))
  else none
  else
  some ((-2), R))
  else
  some ((-1), R))
set_option maxRecDepth 20000 in
set_option maxHeartbeats 4000000 in
theorem c_X8_useSlot {l : Launch} {g : xG} {d : Nat} {A : xA} {R : xN} {a : Nat} (h_a : sh 8 A a) (i0 : Int) : Ev l g (d + 3) mX8_useSlot 0 [xR a, xI i0] [] A R (fun v : Int × xN => some (xI v.1)) (fun v => v.2) (f_X8_useSlot a i0 R) := by
  rw [f_X8_useSlot]
  refine ev_st (pc' := 3) (L' := [xR a, xI i0]) (st' := [xI 1, xI 0, xI i0]) (fun _ _ _ k => e_iload_n dX8_useSlot_0 rfl (i := 1) (x := i0) rfl (e_iconst dX8_useSlot_1 (k4 rfl) (e_iconst dX8_useSlot_2 (k4 rfl) k))) ?_
  refine ev_callN (As := [xI i0, xI 0, xI 1]) (st := []) (fun v1 => [xI (xz v1)]) dX8_useSlot_3 mlX8_34 rfl rfl rfl rfl rfl rfl (c_X9_isIn (d := d + 2) i0 0 1) (fun _ => xz01 _) (fun _ => rfl) (fun v1 => ?_)
  refine ev_br2 (P := v1 = true) (pct := 11) (pcf := 9) (st' := []) (fun _ _ _ kt kf => e_ifnez dX8_useSlot_6 (tgt := 11) rfl kt kf) (fun h2 => ?_) (fun h2 => ?_)
  · refine ev_st (pc' := 16) (L' := [xR a, xI i0]) (st' := [xI (R a 2), xI i0]) (fun _ _ _ k => e_iload_n dX8_useSlot_11 rfl (i := 1) (x := i0) rfl (e_aload_n dX8_useSlot_12 rfl (i := 0) (x := a) rfl (e_geti dX8_useSlot_13 flX8_22 (kd8_0 h_a) (Or.inl rfl) k))) ?_
    refine ev_callN (As := [xI i0, xI (R a 2)]) (st := []) (fun v3 => [xI (xz v3)]) dX8_useSlot_16 mlX8_30 rfl rfl rfl rfl rfl rfl (c_X9_isInSet (d := d + 2) i0 (R a 2)) (fun _ => xz01 _) (fun _ => rfl) (fun v3 => ?_)
    refine ev_br2 (P := v3 = true) (pct := 25) (pcf := 22) (st' := []) (fun _ _ _ kt kf => e_ifnez dX8_useSlot_19 (tgt := 25) rfl kt kf) (fun h4 => ?_) (fun h4 => ?_)
    · refine ev_st (pc' := 34) (L' := [xR a, xI i0]) (st' := [xI i0, xR (a + 15), xR (a + 1)]) (fun _ _ _ k => e_aload_n dX8_useSlot_25 rfl (i := 0) (x := a) rfl (e_getr dX8_useSlot_26 flX8_12 (kd8_0 h_a) rfl (rf8_0_0 h_a) (e_aload_n dX8_useSlot_29 rfl (i := 0) (x := a) rfl (e_getr dX8_useSlot_30 flX8_18 (kd8_0 h_a) rfl (rf8_0_1 h_a) (e_iload_n dX8_useSlot_33 rfl (i := 1) (x := i0) rfl k))))) ?_
      refine ev_chk (fun h5 => ?_)
      refine ev_st (pc' := 35) (L' := [xR a, xI i0]) (st' := [xR (a + 16 + 14 * (i0).toNat), xR (a + 1)]) (fun _ _ _ k => e_aald2 dX8_useSlot_34 (kd8_15 h_a) h5.1 h5.2 (slot_at h_a h5.1 h5.2) k) ?_
      refine ev_callV (As := [xR (a + 16 + 14 * (i0).toNat)]) (st := []) (fun v6 => []) dX8_useSlot_35 mlX8_26 (kd8_1 h_a) rfl rfl rfl rfl rfl rfl (c_X0_copyFrom (d := d) (sb8_1_0 h_a) (slot_sh h_a h5.1 h5.2)) (fun _ => trivial) (fun _ => rfl) (fun v6 => ?_)
      exact ev_ret (e_aload_n dX8_useSlot_38 rfl (i := 0) (x := a) rfl (e_getr dX8_useSlot_39 flX8_12 (kd8_0 h_a) rfl (rf8_0_0 h_a) (e_getr dX8_useSlot_42 flX8_38 (kd8_1 h_a) rfl (rf8_1_1 h_a) (e_geti dX8_useSlot_45 flX8_42 (kd8_5 h_a) (Or.inl rfl) (e_iret dX8_useSlot_48)))))
    · exact ev_ret (e_bipush dX8_useSlot_22 rfl (k4 rfl) (e_iret dX8_useSlot_24))
  · exact ev_ret (e_iconst dX8_useSlot_9 (k4 rfl) (e_iret dX8_useSlot_10))
def f_X9_setSheet (a : Nat) (i0 : Int) (i1 : Int) (R : xN) : Option (Int × xN) :=
  (f_X1_keep (a + 45) (a + 1) R).bind (fun v1 =>
  (f_X0_takeSheet (a + 2) i0 i1 v1).bind (fun v2 =>
  (f_X1_settle (a + 45) v2.1 v2.2).bind (fun v3 =>
  some (v3.1, v3.2))))
set_option maxRecDepth 20000 in
set_option maxHeartbeats 4000000 in
theorem c_X9_setSheet {l : Launch} {g : xG} {d : Nat} {A : xA} {R : xN} {a : Nat} (h_a : sh 9 A a) (i0 : Int) (i1 : Int) : Ev l g (d + 5) mX9_setSheet 0 [xR a, xI i0, xI i1] [] A R (fun v : Int × xN => some (xI v.1)) (fun v => v.2) (f_X9_setSheet a i0 i1 R) := by
  rw [f_X9_setSheet]
  refine ev_st (pc' := 8) (L' := [xR a, xI i0, xI i1]) (st' := [xR (a + 1), xR (a + 45)]) (fun _ _ _ k => e_aload_n dX9_setSheet_0 rfl (i := 0) (x := a) rfl (e_getr dX9_setSheet_1 flX9_19 (kd9_0 h_a) rfl (rf9_0_1 h_a) (e_aload_n dX9_setSheet_4 rfl (i := 0) (x := a) rfl (e_getr dX9_setSheet_5 flX9_10 (kd9_0 h_a) rfl (rf9_0_0 h_a) k)))) ?_
  refine ev_callV (As := [xR (a + 1)]) (st := []) (fun v1 => []) dX9_setSheet_8 mlX9_58 (kd9_45 h_a) rfl rfl rfl rfl rfl rfl (c_X1_keep (d := d) (sb9_45_1 h_a) (sb9_1_8 h_a)) (fun _ => trivial) (fun _ => rfl) (fun v1 => ?_)
  refine ev_st (pc' := 24) (L' := [xR a, xI i0, xI i1]) (st' := [xI i1, xI i0, xR (a + 2), xR (a + 45)]) (fun _ _ _ k => e_aload_n dX9_setSheet_11 rfl (i := 0) (x := a) rfl (e_getr dX9_setSheet_12 flX9_19 (kd9_0 h_a) rfl (rf9_0_1 h_a) (e_aload_n dX9_setSheet_15 rfl (i := 0) (x := a) rfl (e_getr dX9_setSheet_16 flX9_10 (kd9_0 h_a) rfl (rf9_0_0 h_a) (e_getr dX9_setSheet_19 flX9_62 (kd9_1 h_a) rfl (rf9_1_0 h_a) (e_iload_n dX9_setSheet_22 rfl (i := 1) (x := i0) rfl (e_iload_n dX9_setSheet_23 rfl (i := 2) (x := i1) rfl k))))))) ?_
  refine ev_callV (As := [xI i0, xI i1]) (st := [xR (a + 45)]) (fun v2 => [xI v2.1, xR (a + 45)]) dX9_setSheet_24 mlX9_66 (kd9_2 h_a) rfl rfl rfl rfl rfl rfl (c_X0_takeSheet (d := d + 2) (sb9_2_0 h_a) i0 i1) (fun _ => trivial) (fun _ => rfl) (fun v2 => ?_)
  refine ev_callV (As := [xI v2.1]) (st := []) (fun v3 => [xI v3.1]) dX9_setSheet_27 mlX9_72 (kd9_45 h_a) rfl rfl rfl rfl rfl rfl (c_X1_settle (d := d + 2) (sb9_45_1 h_a) v2.1) (fun _ => trivial) (fun _ => rfl) (fun v3 => ?_)
  exact ev_ret (e_iret dX9_setSheet_30)
def f_X9_fold (a : Nat) (i0 : Int) (R : xN) : Option (Int × xN) :=
  (f_X1_keep (a + 45) (a + 1) R).bind (fun v1 =>
  (f_X0_foldOnce (a + 2) i0 v1).bind (fun v2 =>
  (f_X1_settle (a + 45) v2.1 v2.2).bind (fun v3 =>
  some (v3.1, v3.2))))
set_option maxRecDepth 20000 in
set_option maxHeartbeats 4000000 in
theorem c_X9_fold {l : Launch} {g : xG} {d : Nat} {A : xA} {R : xN} {a : Nat} (h_a : sh 9 A a) (i0 : Int) : Ev l g (d + 5) mX9_fold 0 [xR a, xI i0] [] A R (fun v : Int × xN => some (xI v.1)) (fun v => v.2) (f_X9_fold a i0 R) := by
  rw [f_X9_fold]
  refine ev_st (pc' := 8) (L' := [xR a, xI i0]) (st' := [xR (a + 1), xR (a + 45)]) (fun _ _ _ k => e_aload_n dX9_fold_0 rfl (i := 0) (x := a) rfl (e_getr dX9_fold_1 flX9_19 (kd9_0 h_a) rfl (rf9_0_1 h_a) (e_aload_n dX9_fold_4 rfl (i := 0) (x := a) rfl (e_getr dX9_fold_5 flX9_10 (kd9_0 h_a) rfl (rf9_0_0 h_a) k)))) ?_
  refine ev_callV (As := [xR (a + 1)]) (st := []) (fun v1 => []) dX9_fold_8 mlX9_58 (kd9_45 h_a) rfl rfl rfl rfl rfl rfl (c_X1_keep (d := d) (sb9_45_1 h_a) (sb9_1_8 h_a)) (fun _ => trivial) (fun _ => rfl) (fun v1 => ?_)
  refine ev_st (pc' := 23) (L' := [xR a, xI i0]) (st' := [xI i0, xR (a + 2), xR (a + 45)]) (fun _ _ _ k => e_aload_n dX9_fold_11 rfl (i := 0) (x := a) rfl (e_getr dX9_fold_12 flX9_19 (kd9_0 h_a) rfl (rf9_0_1 h_a) (e_aload_n dX9_fold_15 rfl (i := 0) (x := a) rfl (e_getr dX9_fold_16 flX9_10 (kd9_0 h_a) rfl (rf9_0_0 h_a) (e_getr dX9_fold_19 flX9_62 (kd9_1 h_a) rfl (rf9_1_0 h_a) (e_iload_n dX9_fold_22 rfl (i := 1) (x := i0) rfl k)))))) ?_
  refine ev_callV (As := [xI i0]) (st := [xR (a + 45)]) (fun v2 => [xI v2.1, xR (a + 45)]) dX9_fold_23 mlX9_76 (kd9_2 h_a) rfl rfl rfl rfl rfl rfl (c_X0_foldOnce (d := d + 1) (sb9_2_0 h_a) i0) (fun _ => trivial) (fun _ => rfl) (fun v2 => ?_)
  refine ev_callV (As := [xI v2.1]) (st := []) (fun v3 => [xI v3.1]) dX9_fold_26 mlX9_72 (kd9_45 h_a) rfl rfl rfl rfl rfl rfl (c_X1_settle (d := d + 2) (sb9_45_1 h_a) v2.1) (fun _ => trivial) (fun _ => rfl) (fun v3 => ?_)
  exact ev_ret (e_iret dX9_fold_29)
def f_X9_unfold (a : Nat) (R : xN) : Option (Int × xN) :=
  (f_X1_keep (a + 45) (a + 1) R).bind (fun v1 =>
  (f_X0_foldBack (a + 2) v1).bind (fun v2 =>
  (f_X1_settle (a + 45) v2.1 v2.2).bind (fun v3 =>
  some (v3.1, v3.2))))
set_option maxRecDepth 20000 in
set_option maxHeartbeats 4000000 in
theorem c_X9_unfold {l : Launch} {g : xG} {d : Nat} {A : xA} {R : xN} {a : Nat} (h_a : sh 9 A a)  : Ev l g (d + 5) mX9_unfold 0 [xR a] [] A R (fun v : Int × xN => some (xI v.1)) (fun v => v.2) (f_X9_unfold a R) := by
  rw [f_X9_unfold]
  refine ev_st (pc' := 8) (L' := [xR a]) (st' := [xR (a + 1), xR (a + 45)]) (fun _ _ _ k => e_aload_n dX9_unfold_0 rfl (i := 0) (x := a) rfl (e_getr dX9_unfold_1 flX9_19 (kd9_0 h_a) rfl (rf9_0_1 h_a) (e_aload_n dX9_unfold_4 rfl (i := 0) (x := a) rfl (e_getr dX9_unfold_5 flX9_10 (kd9_0 h_a) rfl (rf9_0_0 h_a) k)))) ?_
  refine ev_callV (As := [xR (a + 1)]) (st := []) (fun v1 => []) dX9_unfold_8 mlX9_58 (kd9_45 h_a) rfl rfl rfl rfl rfl rfl (c_X1_keep (d := d) (sb9_45_1 h_a) (sb9_1_8 h_a)) (fun _ => trivial) (fun _ => rfl) (fun v1 => ?_)
  refine ev_st (pc' := 22) (L' := [xR a]) (st' := [xR (a + 2), xR (a + 45)]) (fun _ _ _ k => e_aload_n dX9_unfold_11 rfl (i := 0) (x := a) rfl (e_getr dX9_unfold_12 flX9_19 (kd9_0 h_a) rfl (rf9_0_1 h_a) (e_aload_n dX9_unfold_15 rfl (i := 0) (x := a) rfl (e_getr dX9_unfold_16 flX9_10 (kd9_0 h_a) rfl (rf9_0_0 h_a) (e_getr dX9_unfold_19 flX9_62 (kd9_1 h_a) rfl (rf9_1_0 h_a) k))))) ?_
  refine ev_callV (As := []) (st := [xR (a + 45)]) (fun v2 => [xI v2.1, xR (a + 45)]) dX9_unfold_22 mlX9_79 (kd9_2 h_a) rfl rfl rfl rfl rfl rfl (c_X0_foldBack (d := d) (sb9_2_0 h_a)) (fun _ => trivial) (fun _ => rfl) (fun v2 => ?_)
  refine ev_callV (As := [xI v2.1]) (st := []) (fun v3 => [xI v3.1]) dX9_unfold_25 mlX9_72 (kd9_45 h_a) rfl rfl rfl rfl rfl rfl (c_X1_settle (d := d + 2) (sb9_45_1 h_a) v2.1) (fun _ => trivial) (fun _ => rfl) (fun v3 => ?_)
  exact ev_ret (e_iret dX9_unfold_28)
def f_X9_setSpine (a : Nat) (i0 : Int) (R : xN) : Option (Int × xN) :=
  (f_X1_keep (a + 45) (a + 1) R).bind (fun v1 =>
  (f_X0_moveSpine (a + 2) i0 v1).bind (fun v2 =>
  (f_X1_settle (a + 45) v2.1 v2.2).bind (fun v3 =>
  some (v3.1, v3.2))))
set_option maxRecDepth 20000 in
set_option maxHeartbeats 4000000 in
theorem c_X9_setSpine {l : Launch} {g : xG} {d : Nat} {A : xA} {R : xN} {a : Nat} (h_a : sh 9 A a) (i0 : Int) : Ev l g (d + 5) mX9_setSpine 0 [xR a, xI i0] [] A R (fun v : Int × xN => some (xI v.1)) (fun v => v.2) (f_X9_setSpine a i0 R) := by
  rw [f_X9_setSpine]
  refine ev_st (pc' := 8) (L' := [xR a, xI i0]) (st' := [xR (a + 1), xR (a + 45)]) (fun _ _ _ k => e_aload_n dX9_setSpine_0 rfl (i := 0) (x := a) rfl (e_getr dX9_setSpine_1 flX9_19 (kd9_0 h_a) rfl (rf9_0_1 h_a) (e_aload_n dX9_setSpine_4 rfl (i := 0) (x := a) rfl (e_getr dX9_setSpine_5 flX9_10 (kd9_0 h_a) rfl (rf9_0_0 h_a) k)))) ?_
  refine ev_callV (As := [xR (a + 1)]) (st := []) (fun v1 => []) dX9_setSpine_8 mlX9_58 (kd9_45 h_a) rfl rfl rfl rfl rfl rfl (c_X1_keep (d := d) (sb9_45_1 h_a) (sb9_1_8 h_a)) (fun _ => trivial) (fun _ => rfl) (fun v1 => ?_)
  refine ev_st (pc' := 23) (L' := [xR a, xI i0]) (st' := [xI i0, xR (a + 2), xR (a + 45)]) (fun _ _ _ k => e_aload_n dX9_setSpine_11 rfl (i := 0) (x := a) rfl (e_getr dX9_setSpine_12 flX9_19 (kd9_0 h_a) rfl (rf9_0_1 h_a) (e_aload_n dX9_setSpine_15 rfl (i := 0) (x := a) rfl (e_getr dX9_setSpine_16 flX9_10 (kd9_0 h_a) rfl (rf9_0_0 h_a) (e_getr dX9_setSpine_19 flX9_62 (kd9_1 h_a) rfl (rf9_1_0 h_a) (e_iload_n dX9_setSpine_22 rfl (i := 1) (x := i0) rfl k)))))) ?_
  refine ev_callV (As := [xI i0]) (st := [xR (a + 45)]) (fun v2 => [xI v2.1, xR (a + 45)]) dX9_setSpine_23 mlX9_83 (kd9_2 h_a) rfl rfl rfl rfl rfl rfl (c_X0_moveSpine (d := d + 3) (sb9_2_0 h_a) i0) (fun _ => trivial) (fun _ => rfl) (fun v2 => ?_)
  refine ev_callV (As := [xI v2.1]) (st := []) (fun v3 => [xI v3.1]) dX9_setSpine_26 mlX9_72 (kd9_45 h_a) rfl rfl rfl rfl rfl rfl (c_X1_settle (d := d + 2) (sb9_45_1 h_a) v2.1) (fun _ => trivial) (fun _ => rfl) (fun v3 => ?_)
  exact ev_ret (e_iret dX9_setSpine_29)
def f_X9_printAll (a : Nat) (i0 : Int) (R : xN) : Option (Int × xN) :=
  (f_X1_keep (a + 45) (a + 1) R).bind (fun v1 =>
  (f_X0_printSheet (a + 2) (a + 311) i0 v1).bind (fun v2 =>
  (f_X1_settle (a + 45) v2.1 v2.2).bind (fun v3 =>
  some (v3.1, v3.2))))
set_option maxRecDepth 20000 in
set_option maxHeartbeats 4000000 in
theorem c_X9_printAll {l : Launch} {g : xG} {d : Nat} {A : xA} {R : xN} {a : Nat} (h_a : sh 9 A a) (i0 : Int) : Ev l g (d + 5) mX9_printAll 0 [xR a, xI i0] [] A R (fun v : Int × xN => some (xI v.1)) (fun v => v.2) (f_X9_printAll a i0 R) := by
  rw [f_X9_printAll]
  refine ev_st (pc' := 8) (L' := [xR a, xI i0]) (st' := [xR (a + 1), xR (a + 45)]) (fun _ _ _ k => e_aload_n dX9_printAll_0 rfl (i := 0) (x := a) rfl (e_getr dX9_printAll_1 flX9_19 (kd9_0 h_a) rfl (rf9_0_1 h_a) (e_aload_n dX9_printAll_4 rfl (i := 0) (x := a) rfl (e_getr dX9_printAll_5 flX9_10 (kd9_0 h_a) rfl (rf9_0_0 h_a) k)))) ?_
  refine ev_callV (As := [xR (a + 1)]) (st := []) (fun v1 => []) dX9_printAll_8 mlX9_58 (kd9_45 h_a) rfl rfl rfl rfl rfl rfl (c_X1_keep (d := d) (sb9_45_1 h_a) (sb9_1_8 h_a)) (fun _ => trivial) (fun _ => rfl) (fun v1 => ?_)
  refine ev_st (pc' := 27) (L' := [xR a, xI i0]) (st' := [xI i0, xR (a + 311), xR (a + 2), xR (a + 45)]) (fun _ _ _ k => e_aload_n dX9_printAll_11 rfl (i := 0) (x := a) rfl (e_getr dX9_printAll_12 flX9_19 (kd9_0 h_a) rfl (rf9_0_1 h_a) (e_aload_n dX9_printAll_15 rfl (i := 0) (x := a) rfl (e_getr dX9_printAll_16 flX9_10 (kd9_0 h_a) rfl (rf9_0_0 h_a) (e_getr dX9_printAll_19 flX9_62 (kd9_1 h_a) rfl (rf9_1_0 h_a) (e_aload_n dX9_printAll_22 rfl (i := 0) (x := a) rfl (e_getr dX9_printAll_23 flX9_26 (kd9_0 h_a) rfl (rf9_0_2 h_a) (e_iload_n dX9_printAll_26 rfl (i := 1) (x := i0) rfl k)))))))) ?_
  refine ev_callV (As := [xR (a + 311), xI i0]) (st := [xR (a + 45)]) (fun v2 => [xI v2.1, xR (a + 45)]) dX9_printAll_27 mlX9_90 (kd9_2 h_a) rfl rfl rfl rfl rfl rfl (c_X0_printSheet (d := d) (sb9_2_0 h_a) (sb9_311_3 h_a) i0) (fun _ => trivial) (fun _ => rfl) (fun v2 => ?_)
  refine ev_callV (As := [xI v2.1]) (st := []) (fun v3 => [xI v3.1]) dX9_printAll_30 mlX9_72 (kd9_45 h_a) rfl rfl rfl rfl rfl rfl (c_X1_settle (d := d + 2) (sb9_45_1 h_a) v2.1) (fun _ => trivial) (fun _ => rfl) (fun v3 => ?_)
  exact ev_ret (e_iret dX9_printAll_33)
def f_X9_cut (a : Nat) (i0 : Int) (R : xN) : Option (Int × xN) :=
  (f_X1_keep (a + 45) (a + 1) R).bind (fun v1 =>
  (f_X0_cutAlong (a + 2) i0 v1).bind (fun v2 =>
  (f_X1_settle (a + 45) v2.1 v2.2).bind (fun v3 =>
  some (v3.1, v3.2))))
set_option maxRecDepth 20000 in
set_option maxHeartbeats 4000000 in
theorem c_X9_cut {l : Launch} {g : xG} {d : Nat} {A : xA} {R : xN} {a : Nat} (h_a : sh 9 A a) (i0 : Int) : Ev l g (d + 5) mX9_cut 0 [xR a, xI i0] [] A R (fun v : Int × xN => some (xI v.1)) (fun v => v.2) (f_X9_cut a i0 R) := by
  rw [f_X9_cut]
  refine ev_st (pc' := 8) (L' := [xR a, xI i0]) (st' := [xR (a + 1), xR (a + 45)]) (fun _ _ _ k => e_aload_n dX9_cut_0 rfl (i := 0) (x := a) rfl (e_getr dX9_cut_1 flX9_19 (kd9_0 h_a) rfl (rf9_0_1 h_a) (e_aload_n dX9_cut_4 rfl (i := 0) (x := a) rfl (e_getr dX9_cut_5 flX9_10 (kd9_0 h_a) rfl (rf9_0_0 h_a) k)))) ?_
  refine ev_callV (As := [xR (a + 1)]) (st := []) (fun v1 => []) dX9_cut_8 mlX9_58 (kd9_45 h_a) rfl rfl rfl rfl rfl rfl (c_X1_keep (d := d) (sb9_45_1 h_a) (sb9_1_8 h_a)) (fun _ => trivial) (fun _ => rfl) (fun v1 => ?_)
  refine ev_st (pc' := 23) (L' := [xR a, xI i0]) (st' := [xI i0, xR (a + 2), xR (a + 45)]) (fun _ _ _ k => e_aload_n dX9_cut_11 rfl (i := 0) (x := a) rfl (e_getr dX9_cut_12 flX9_19 (kd9_0 h_a) rfl (rf9_0_1 h_a) (e_aload_n dX9_cut_15 rfl (i := 0) (x := a) rfl (e_getr dX9_cut_16 flX9_10 (kd9_0 h_a) rfl (rf9_0_0 h_a) (e_getr dX9_cut_19 flX9_62 (kd9_1 h_a) rfl (rf9_1_0 h_a) (e_iload_n dX9_cut_22 rfl (i := 1) (x := i0) rfl k)))))) ?_
  refine ev_callV (As := [xI i0]) (st := [xR (a + 45)]) (fun v2 => [xI v2.1, xR (a + 45)]) dX9_cut_23 mlX9_94 (kd9_2 h_a) rfl rfl rfl rfl rfl rfl (c_X0_cutAlong (d := d + 1) (sb9_2_0 h_a) i0) (fun _ => trivial) (fun _ => rfl) (fun v2 => ?_)
  refine ev_callV (As := [xI v2.1]) (st := []) (fun v3 => [xI v3.1]) dX9_cut_26 mlX9_72 (kd9_45 h_a) rfl rfl rfl rfl rfl rfl (c_X1_settle (d := d + 2) (sb9_45_1 h_a) v2.1) (fun _ => trivial) (fun _ => rfl) (fun v3 => ?_)
  exact ev_ret (e_iret dX9_cut_29)
