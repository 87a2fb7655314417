def lp_X10_record_10 (a : Nat) : Nat → Int → xN → (Int → xN → Option (xN)) → Option (xN)
  | 0, _, _, _ => none
  | n + 1, y1, R, X =>
    if 1856 ≤ y1 then
    X y1 R
    else
    if 0 ≤ (w4 (464 + y1)) ∧ (w4 (464 + y1)) < 2320 then
    if 0 ≤ y1 ∧ y1 < 2320 then
    xlet (xup R (a + 2) (y1).toNat (R (a + 2) ((w4 (464 + y1))).toNat)) (fun R5 =>
    xlet (w4 (y1 + 1)) (fun x6 =>
    lp_X10_record_10 a n x6 R5 X))
    else none
    else none
def lp_X10_record_51 (a : Nat) : Nat → Int → xN → (Int → xN → Option (xN)) → Option (xN)
  | 0, _, _, _ => none
  | n + 1, y1, R, X =>
    if 464 ≤ y1 then
    X y1 R
    else
    if 0 ≤ y1 ∧ y1 < 464 then
    if 0 ≤ (w4 ((w4 (464 * (R a 3))) + y1)) ∧ (w4 ((w4 (464 * (R a 3))) + y1)) < 2320 then
    xlet (xup R (a + 2) ((w4 ((w4 (464 * (R a 3))) + y1))).toNat (R (a + 1) (y1).toNat)) (fun R13 =>
    xlet (w4 (y1 + 1)) (fun x14 =>
    lp_X10_record_51 a n x14 R13 X))
    else none
    else none
def f_X10_record (a : Nat) (R : xN) : Option (xN) :=
  if (R a 3) = 5 then
  lp_X10_record_10 a 6000 0 R (fun z7 R8 =>
  xlet (xup R8 a 3 (w4 ((R8 a 3) - 1))) (fun R9 =>
  lp_X10_record_51 a 6000 0 R9 (fun z15 R16 =>
  xlet (xup R16 a 3 (w4 ((R16 a 3) + 1))) (fun R17 =>
  some R17))))
  else
  lp_X10_record_51 a 6000 0 R (fun z18 R19 =>
  xlet (xup R19 a 3 (w4 ((R19 a 3) + 1))) (fun R20 =>
  some R20))
set_option maxRecDepth 20000 in
set_option maxHeartbeats 4000000 in
theorem lc_X10_record_10 {l : Launch} {g : xG} {d : Nat} {A : xA} {a : Nat} (h_a : sh 10 A a)  {X : Int → xN → Option (xN)} (hX : ∀ (y1 : Int) (R : xN), Ev l g (d) mX10_record 39 [xR a, xU] [] A R (fun _ : xN => none) (fun v => v) (X y1 R)) (n : Nat) (y1 : Int) (R : xN) : Ev l g (d) mX10_record 10 [xR a, xI y1] [] A R (fun _ : xN => none) (fun v => v) (lp_X10_record_10 a n y1 R X) := by
  induction n generalizing y1 R with
  | zero => exact ev_none
  | succ n ih =>
    rw [lp_X10_record_10]
    refine ev_st (pc' := 14) (L' := [xR a, xI y1]) (st' := [xI 1856, xI y1]) (fun _ _ _ k => e_iload_n dX10_record_10 rfl (i := 1) (x := y1) rfl (e_sipush dX10_record_11 rfl (k4 rfl) k)) ?_
    refine ev_br2 (P := 1856 ≤ y1) (pct := 39) (pcf := 17) (st' := []) (fun _ _ _ kt kf => e_cge dX10_record_14 (tgt := 39) rfl kt kf) (fun h2 => ?_) (fun h2 => ?_)
    · refine ev_st (pc' := 39) (L' := [xR a, xU]) (st' := []) (fun _ _ _ k => e_fg [1] k) ?_
      exact hX y1 R
    · refine ev_st (pc' := 31) (L' := [xR a, xI y1]) (st' := [xI (w4 (464 + y1)), xR (a + 2), xI y1, xR (a + 2)]) (fun _ _ _ k => e_aload_n dX10_record_17 rfl (i := 0) (x := a) rfl (e_getr dX10_record_18 flX10_13 (kd10_0 h_a) rfl (rf10_0_1 h_a) (e_iload_n dX10_record_21 rfl (i := 1) (x := y1) rfl (e_aload_n dX10_record_22 rfl (i := 0) (x := a) rfl (e_getr dX10_record_23 flX10_13 (kd10_0 h_a) rfl (rf10_0_1 h_a) (e_sipush dX10_record_26 rfl (k4 rfl) (e_iload_n dX10_record_29 rfl (i := 1) (x := y1) rfl (e_iadd dX10_record_30 k)))))))) ?_
      refine ev_chk (fun h3 => ?_)
      refine ev_st (pc' := 32) (L' := [xR a, xI y1]) (st' := [xI (R (a + 2) ((w4 (464 + y1))).toNat), xI y1, xR (a + 2)]) (fun _ _ _ k => e_iald dX10_record_31 (kd10_2 h_a) h3.1 h3.2 k) ?_
      refine ev_chk (fun h4 => ?_)
      refine ev_st (pc' := 33) (L' := [xR a, xI y1]) (st' := []) (fun _ _ _ k => e_iast dX10_record_32 (kd10_2 h_a) h4.1 h4.2 k) ?_
      refine ev_letR (fun R5 eR5 => ?_)
      refine ev_letx (fun x6 ex6 => ?_)
      refine ev_st (pc' := 36) (L' := [xR a, xI x6]) (st' := []) (fun _ _ _ k => e_iinc dX10_record_33 (i := 1) rfl (x := y1) rfl (y := x6) ex6 (L' := [xR a, xI x6]) rfl k) ?_
      refine ev_st (pc' := 10) (L' := [xR a, xI x6]) (st' := []) (fun _ _ _ k => e_goto dX10_record_36 (tgt := 10) rfl k) ?_
      exact ih x6 R5
set_option maxRecDepth 20000 in
set_option maxHeartbeats 4000000 in
theorem lc_X10_record_51 {l : Launch} {g : xG} {d : Nat} {A : xA} {a : Nat} (h_a : sh 10 A a)  {X : Int → xN → Option (xN)} (hX : ∀ (y1 : Int) (R : xN), Ev l g (d) mX10_record 85 [xR a, xU] [] A R (fun _ : xN => none) (fun v => v) (X y1 R)) (n : Nat) (y1 : Int) (R : xN) : Ev l g (d) mX10_record 51 [xR a, xI y1] [] A R (fun _ : xN => none) (fun v => v) (lp_X10_record_51 a n y1 R X) := by
  induction n generalizing y1 R with
  | zero => exact ev_none
  | succ n ih =>
    rw [lp_X10_record_51]
    refine ev_st (pc' := 55) (L' := [xR a, xI y1]) (st' := [xI 464, xI y1]) (fun _ _ _ k => e_iload_n dX10_record_51 rfl (i := 1) (x := y1) rfl (e_sipush dX10_record_52 rfl (k4 rfl) k)) ?_
    refine ev_br2 (P := 464 ≤ y1) (pct := 85) (pcf := 58) (st' := []) (fun _ _ _ kt kf => e_cge dX10_record_55 (tgt := 85) rfl kt kf) (fun h10 => ?_) (fun h10 => ?_)
    · refine ev_st (pc' := 85) (L' := [xR a, xU]) (st' := []) (fun _ _ _ k => e_fg [1] k) ?_
      exact hX y1 R
    · refine ev_st (pc' := 77) (L' := [xR a, xI y1]) (st' := [xI y1, xR (a + 1), xI (w4 ((w4 (464 * (R a 3))) + y1)), xR (a + 2)]) (fun _ _ _ k => e_aload_n dX10_record_58 rfl (i := 0) (x := a) rfl (e_getr dX10_record_59 flX10_13 (kd10_0 h_a) rfl (rf10_0_1 h_a) (e_sipush dX10_record_62 rfl (k4 rfl) (e_aload_n dX10_record_65 rfl (i := 0) (x := a) rfl (e_geti dX10_record_66 flX10_61 (kd10_0 h_a) (Or.inl rfl) (e_imul dX10_record_69 (e_iload_n dX10_record_70 rfl (i := 1) (x := y1) rfl (e_iadd dX10_record_71 (e_aload_n dX10_record_72 rfl (i := 0) (x := a) rfl (e_getr dX10_record_73 flX10_7 (kd10_0 h_a) rfl (rf10_0_0 h_a) (e_iload_n dX10_record_76 rfl (i := 1) (x := y1) rfl k))))))))))) ?_
      refine ev_chk (fun h11 => ?_)
      refine ev_st (pc' := 78) (L' := [xR a, xI y1]) (st' := [xI (R (a + 1) (y1).toNat), xI (w4 ((w4 (464 * (R a 3))) + y1)), xR (a + 2)]) (fun _ _ _ k => e_iald dX10_record_77 (kd10_1 h_a) h11.1 h11.2 k) ?_
      refine ev_chk (fun h12 => ?_)
      refine ev_st (pc' := 79) (L' := [xR a, xI y1]) (st' := []) (fun _ _ _ k => e_iast dX10_record_78 (kd10_2 h_a) h12.1 h12.2 k) ?_
      refine ev_letR (fun R13 eR13 => ?_)
      refine ev_letx (fun x14 ex14 => ?_)
      refine ev_st (pc' := 82) (L' := [xR a, xI x14]) (st' := []) (fun _ _ _ k => e_iinc dX10_record_79 (i := 1) rfl (x := y1) rfl (y := x14) ex14 (L' := [xR a, xI x14]) rfl k) ?_
      refine ev_st (pc' := 51) (L' := [xR a, xI x14]) (st' := []) (fun _ _ _ k => e_goto dX10_record_82 (tgt := 51) rfl k) ?_
      exact ih x14 R13
set_option maxRecDepth 20000 in
set_option maxHeartbeats 4000000 in
theorem c_X10_record {l : Launch} {g : xG} {d : Nat} {A : xA} {R : xN} {a : Nat} (h_a : sh 10 A a)  : Ev l g (d) mX10_record 0 [xR a, xU] [] A R (fun _ : xN => none) (fun v => v) (f_X10_record a R) := by
  rw [f_X10_record]
  refine ev_st (pc' := 5) (L' := [xR a, xU]) (st' := [xI 5, xI (R a 3)]) (fun _ _ _ k => e_aload_n dX10_record_0 rfl (i := 0) (x := a) rfl (e_geti dX10_record_1 flX10_61 (kd10_0 h_a) (Or.inl rfl) (e_iconst dX10_record_4 (k4 rfl) k))) ?_
  refine ev_br2 (P := (R a 3) = 5) (pct := 8) (pcf := 49) (st' := []) (fun _ _ _ kt kf => e_cne dX10_record_5 (tgt := 49) rfl kt kf) (fun h1 => ?_) (fun h1 => ?_)
  · refine ev_st (pc' := 10) (L' := [xR a, xI 0]) (st' := []) (fun _ _ _ k => e_iconst dX10_record_8 (k4 rfl) (e_istore_n dX10_record_9 rfl (i := 1) rfl (L' := [xR a, xI 0]) rfl k)) ?_
    refine lc_X10_record_10 h_a (fun z7 R8 => ?_) 6000 0 R
    refine ev_st (pc' := 49) (L' := [xR a, xU]) (st' := []) (fun _ _ _ k => e_aload_n dX10_record_39 rfl (i := 0) (x := a) rfl (e_dupR dX10_record_40 (e_geti dX10_record_41 flX10_61 (kd10_0 h_a) (Or.inl rfl) (e_iconst dX10_record_44 (k4 rfl) (e_isub dX10_record_45 (e_puti dX10_record_46 flX10_61 (kd10_0 h_a) (Or.inl rfl) rfl k)))))) ?_
    refine ev_letR (fun R9 eR9 => ?_)
    refine ev_st (pc' := 51) (L' := [xR a, xI 0]) (st' := []) (fun _ _ _ k => e_iconst dX10_record_49 (k4 rfl) (e_istore_n dX10_record_50 rfl (i := 1) rfl (L' := [xR a, xI 0]) rfl k)) ?_
    refine lc_X10_record_51 h_a (fun z15 R16 => ?_) 6000 0 R9
    refine ev_st (pc' := 95) (L' := [xR a, xU]) (st' := []) (fun _ _ _ k => e_aload_n dX10_record_85 rfl (i := 0) (x := a) rfl (e_dupR dX10_record_86 (e_geti dX10_record_87 flX10_61 (kd10_0 h_a) (Or.inl rfl) (e_iconst dX10_record_90 (k4 rfl) (e_iadd dX10_record_91 (e_puti dX10_record_92 flX10_61 (kd10_0 h_a) (Or.inl rfl) rfl k)))))) ?_
    refine ev_letR (fun R17 eR17 => ?_)
    exact ev_ret (e_vret dX10_record_95)
  · refine ev_st (pc' := 51) (L' := [xR a, xI 0]) (st' := []) (fun _ _ _ k => e_iconst dX10_record_49 (k4 rfl) (e_istore_n dX10_record_50 rfl (i := 1) rfl (L' := [xR a, xI 0]) rfl k)) ?_
    refine lc_X10_record_51 h_a (fun z18 R19 => ?_) 6000 0 R
    refine ev_st (pc' := 95) (L' := [xR a, xU]) (st' := []) (fun _ _ _ k => e_aload_n dX10_record_85 rfl (i := 0) (x := a) rfl (e_dupR dX10_record_86 (e_geti dX10_record_87 flX10_61 (kd10_0 h_a) (Or.inl rfl) (e_iconst dX10_record_90 (k4 rfl) (e_iadd dX10_record_91 (e_puti dX10_record_92 flX10_61 (kd10_0 h_a) (Or.inl rfl) rfl k)))))) ?_
    refine ev_letR (fun R20 eR20 => ?_)
    exact ev_ret (e_vret dX10_record_95)
def f_X10_act (a : Nat) (R : xN) : Option (xN) :=
  if (R a 6) = 0 then
  (f_X10_record a R).bind (fun v2 =>
  some v2)
  else
  some R
set_option maxRecDepth 20000 in
set_option maxHeartbeats 4000000 in
theorem c_X10_act {l : Launch} {g : xG} {d : Nat} {A : xA} {R : xN} {a : Nat} (h_a : sh 10 A a)  : Ev l g (d + 1) mX10_act 0 [xR a] [] A R (fun _ : xN => none) (fun v => v) (f_X10_act a R) := by
  rw [f_X10_act]
  refine ev_st (pc' := 4) (L' := [xR a]) (st' := [xI (R a 6)]) (fun _ _ _ k => e_aload_n dX10_act_0 rfl (i := 0) (x := a) rfl (e_geti dX10_act_1 flX10_65 (kd10_0 h_a) (Or.inr rfl) k)) ?_
  refine ev_br2 (P := (R a 6) = 0) (pct := 7) (pcf := 11) (st' := []) (fun _ _ _ kt kf => e_ifne dX10_act_4 (tgt := 11) rfl kt kf) (fun h1 => ?_) (fun h1 => ?_)
  · refine ev_st (pc' := 8) (L' := [xR a]) (st' := [xR a]) (fun _ _ _ k => e_aload_n dX10_act_7 rfl (i := 0) (x := a) rfl k) ?_
    refine ev_callV (As := []) (st := []) (fun v2 => []) dX10_act_8 mlX10_69 (kd10_0 h_a) rfl rfl rfl rfl rfl rfl (c_X10_record (d := d) h_a) (fun _ => trivial) (fun _ => rfl) (fun v2 => ?_)
    exact ev_ret (e_vret dX10_act_11)
  · exact ev_ret (e_vret dX10_act_11)
def lp_X10_layOpen_27 (a : Nat) : Nat → Int → xN → (Int → xN → Option (xN)) → Option (xN)
  | 0, _, _, _ => none
  | n + 1, y1, R, X =>
    if 16 ≤ y1 then
    X y1 R
    else
    if 0 ≤ y1 ∧ y1 < 16 then
    xlet (xup R (a + 5) (y1).toNat y1) (fun R6 =>
    if 0 ≤ y1 ∧ y1 < 16 then
    xlet (xup R6 (a + 6) (y1).toNat 0) (fun R8 =>
    if 0 ≤ y1 ∧ y1 < 16 then
    xlet (xup R8 (a + 7) (y1).toNat 0) (fun R10 =>
    if 0 ≤ y1 ∧ y1 < 16 then
    xlet (xup R10 (a + 8) (y1).toNat 0) (fun R12 =>
    xlet (w4 (y1 + 1)) (fun x13 =>
    lp_X10_layOpen_27 a n x13 R12 X))
    else none)
    else none)
    else none)
    else none
def f_X10_layOpen (a : Nat) (R : xN) : Option (xN) :=
  xlet (xup R a 7 (R (a + 1) 0)) (fun R1 =>
  xlet (xup R1 a 8 (R1 (a + 1) 1)) (fun R2 =>
  xlet (xup R2 a 9 1) (fun R3 =>
  lp_X10_layOpen_27 a 6000 0 R3 (fun z14 R15 =>
  some R15))))
set_option maxRecDepth 20000 in
set_option maxHeartbeats 4000000 in
theorem lc_X10_layOpen_27 {l : Launch} {g : xG} {d : Nat} {A : xA} {a : Nat} (h_a : sh 10 A a)  {X : Int → xN → Option (xN)} (hX : ∀ (y1 : Int) (R : xN), Ev l g (d) mX10_layOpen 67 [xU, xU] [] A R (fun _ : xN => none) (fun v => v) (X y1 R)) (n : Nat) (y1 : Int) (R : xN) : Ev l g (d) mX10_layOpen 27 [xR a, xI y1] [] A R (fun _ : xN => none) (fun v => v) (lp_X10_layOpen_27 a n y1 R X) := by
  induction n generalizing y1 R with
  | zero => exact ev_none
  | succ n ih =>
    rw [lp_X10_layOpen_27]
    refine ev_st (pc' := 30) (L' := [xR a, xI y1]) (st' := [xI 16, xI y1]) (fun _ _ _ k => e_iload_n dX10_layOpen_27 rfl (i := 1) (x := y1) rfl (e_bipush dX10_layOpen_28 rfl (k4 rfl) k)) ?_
    refine ev_br2 (P := 16 ≤ y1) (pct := 67) (pcf := 33) (st' := []) (fun _ _ _ kt kf => e_cge dX10_layOpen_30 (tgt := 67) rfl kt kf) (fun h4 => ?_) (fun h4 => ?_)
    · refine ev_st (pc' := 67) (L' := [xU, xU]) (st' := []) (fun _ _ _ k => e_fg [0, 1] k) ?_
      exact hX y1 R
    · refine ev_st (pc' := 39) (L' := [xR a, xI y1]) (st' := [xI y1, xI y1, xR (a + 5)]) (fun _ _ _ k => e_aload_n dX10_layOpen_33 rfl (i := 0) (x := a) rfl (e_getr dX10_layOpen_34 flX10_22 (kd10_0 h_a) rfl (rf10_0_10 h_a) (e_iload_n dX10_layOpen_37 rfl (i := 1) (x := y1) rfl (e_iload_n dX10_layOpen_38 rfl (i := 1) (x := y1) rfl k)))) ?_
      refine ev_chk (fun h5 => ?_)
      refine ev_st (pc' := 40) (L' := [xR a, xI y1]) (st' := []) (fun _ _ _ k => e_iast dX10_layOpen_39 (kd10_5 h_a) h5.1 h5.2 k) ?_
      refine ev_letR (fun R6 eR6 => ?_)
      refine ev_st (pc' := 46) (L' := [xR a, xI y1]) (st' := [xI 0, xI y1, xR (a + 6)]) (fun _ _ _ k => e_aload_n dX10_layOpen_40 rfl (i := 0) (x := a) rfl (e_getr dX10_layOpen_41 flX10_25 (kd10_0 h_a) rfl (rf10_0_11 h_a) (e_iload_n dX10_layOpen_44 rfl (i := 1) (x := y1) rfl (e_iconst dX10_layOpen_45 (k4 rfl) k)))) ?_
      refine ev_chk (fun h7 => ?_)
      refine ev_st (pc' := 47) (L' := [xR a, xI y1]) (st' := []) (fun _ _ _ k => e_iast dX10_layOpen_46 (kd10_6 h_a) h7.1 h7.2 k) ?_
      refine ev_letR (fun R8 eR8 => ?_)
      refine ev_st (pc' := 53) (L' := [xR a, xI y1]) (st' := [xI 0, xI y1, xR (a + 7)]) (fun _ _ _ k => e_aload_n dX10_layOpen_47 rfl (i := 0) (x := a) rfl (e_getr dX10_layOpen_48 flX10_28 (kd10_0 h_a) rfl (rf10_0_12 h_a) (e_iload_n dX10_layOpen_51 rfl (i := 1) (x := y1) rfl (e_iconst dX10_layOpen_52 (k4 rfl) k)))) ?_
      refine ev_chk (fun h9 => ?_)
      refine ev_st (pc' := 54) (L' := [xR a, xI y1]) (st' := []) (fun _ _ _ k => e_iast dX10_layOpen_53 (kd10_7 h_a) h9.1 h9.2 k) ?_
      refine ev_letR (fun R10 eR10 => ?_)
      refine ev_st (pc' := 60) (L' := [xR a, xI y1]) (st' := [xI 0, xI y1, xR (a + 8)]) (fun _ _ _ k => e_aload_n dX10_layOpen_54 rfl (i := 0) (x := a) rfl (e_getr dX10_layOpen_55 flX10_31 (kd10_0 h_a) rfl (rf10_0_13 h_a) (e_iload_n dX10_layOpen_58 rfl (i := 1) (x := y1) rfl (e_iconst dX10_layOpen_59 (k4 rfl) k)))) ?_
      refine ev_chk (fun h11 => ?_)
      refine ev_st (pc' := 61) (L' := [xR a, xI y1]) (st' := []) (fun _ _ _ k => e_iast dX10_layOpen_60 (kd10_8 h_a) h11.1 h11.2 k) ?_
      refine ev_letR (fun R12 eR12 => ?_)
      refine ev_letx (fun x13 ex13 => ?_)
      refine ev_st (pc' := 64) (L' := [xR a, xI x13]) (st' := []) (fun _ _ _ k => e_iinc dX10_layOpen_61 (i := 1) rfl (x := y1) rfl (y := x13) ex13 (L' := [xR a, xI x13]) rfl k) ?_
      refine ev_st (pc' := 27) (L' := [xR a, xI x13]) (st' := []) (fun _ _ _ k => e_goto dX10_layOpen_64 (tgt := 27) rfl k) ?_
      exact ih x13 R12
set_option maxRecDepth 20000 in
set_option maxHeartbeats 4000000 in
theorem c_X10_layOpen {l : Launch} {g : xG} {d : Nat} {A : xA} {R : xN} {a : Nat} (h_a : sh 10 A a)  : Ev l g (d) mX10_layOpen 0 [xR a, xU] [] A R (fun _ : xN => none) (fun v => v) (f_X10_layOpen a R) := by
  rw [f_X10_layOpen]
  refine ev_st (pc' := 10) (L' := [xR a, xU]) (st' := []) (fun _ _ _ k => e_aload_n dX10_layOpen_0 rfl (i := 0) (x := a) rfl (e_aload_n dX10_layOpen_1 rfl (i := 0) (x := a) rfl (e_getr dX10_layOpen_2 flX10_7 (kd10_0 h_a) rfl (rf10_0_0 h_a) (e_iconst dX10_layOpen_5 (k4 rfl) (e_iald dX10_layOpen_6 (kd10_1 h_a) (by decide) (by decide) (e_puti dX10_layOpen_7 flX10_72 (kd10_0 h_a) (Or.inl rfl) rfl k)))))) ?_
  refine ev_letR (fun R1 eR1 => ?_)
  refine ev_st (pc' := 20) (L' := [xR a, xU]) (st' := []) (fun _ _ _ k => e_aload_n dX10_layOpen_10 rfl (i := 0) (x := a) rfl (e_aload_n dX10_layOpen_11 rfl (i := 0) (x := a) rfl (e_getr dX10_layOpen_12 flX10_7 (kd10_0 h_a) rfl (rf10_0_0 h_a) (e_iconst dX10_layOpen_15 (k4 rfl) (e_iald dX10_layOpen_16 (kd10_1 h_a) (by decide) (by decide) (e_puti dX10_layOpen_17 flX10_75 (kd10_0 h_a) (Or.inl rfl) rfl k)))))) ?_
  refine ev_letR (fun R2 eR2 => ?_)
  refine ev_st (pc' := 25) (L' := [xR a, xU]) (st' := []) (fun _ _ _ k => e_aload_n dX10_layOpen_20 rfl (i := 0) (x := a) rfl (e_iconst dX10_layOpen_21 (k4 rfl) (e_puti dX10_layOpen_22 flX10_78 (kd10_0 h_a) (Or.inl rfl) rfl k))) ?_
  refine ev_letR (fun R3 eR3 => ?_)
  refine ev_st (pc' := 27) (L' := [xR a, xI 0]) (st' := []) (fun _ _ _ k => e_iconst dX10_layOpen_25 (k4 rfl) (e_istore_n dX10_layOpen_26 rfl (i := 1) rfl (L' := [xR a, xI 0]) rfl k)) ?_
  refine lc_X10_layOpen_27 h_a (fun z14 R15 => ?_) 6000 0 R3
  exact ev_ret (e_vret dX10_layOpen_67)
def f_X10_mayFold (a : Nat) (i0 : Int) (R : xN) : Option (Bool) :=
  if 3 ≤ i0 then
  if (R a 7) ≤ 1 then
  some false
  else
  some true
  else
  if (R a 8) ≤ 1 then
  some false
  else
  some true
set_option maxRecDepth 20000 in
set_option maxHeartbeats 4000000 in
theorem c_X10_mayFold {l : Launch} {g : xG} {d : Nat} {A : xA} {R : xN} {a : Nat} (h_a : sh 10 A a) (i0 : Int) : Ev l g (d) mX10_mayFold 0 [xR a, xI i0] [] A R (fun v : Bool => some (xI (xz v))) (fun _ => R) (f_X10_mayFold a i0 R) := by
  rw [f_X10_mayFold]
  refine ev_st (pc' := 2) (L' := [xR a, xI i0]) (st' := [xI 3, xI i0]) (fun _ _ _ k => e_iload_n dX10_mayFold_0 rfl (i := 1) (x := i0) rfl (e_iconst dX10_mayFold_1 (k4 rfl) k)) ?_
  refine ev_br2 (P := 3 ≤ i0) (pct := 21) (pcf := 5) (st' := []) (fun _ _ _ kt kf => e_cge dX10_mayFold_2 (tgt := 21) rfl kt kf) (fun h1 => ?_) (fun h1 => ?_)
  · refine ev_st (pc' := 26) (L' := [xR a, xI i0]) (st' := [xI 1, xI (R a 7)]) (fun _ _ _ k => e_aload_n dX10_mayFold_21 rfl (i := 0) (x := a) rfl (e_geti dX10_mayFold_22 flX10_72 (kd10_0 h_a) (Or.inl rfl) (e_iconst dX10_mayFold_25 (k4 rfl) k))) ?_
    refine ev_br2 (P := (R a 7) ≤ 1) (pct := 33) (pcf := 29) (st' := []) (fun _ _ _ kt kf => e_cle dX10_mayFold_26 (tgt := 33) rfl kt kf) (fun h2 => ?_) (fun h2 => ?_)
    · exact ev_ret (e_iconst dX10_mayFold_33 (k4 rfl) (e_iret dX10_mayFold_34))
    · exact ev_ret (e_iconst dX10_mayFold_29 (k4 rfl) (e_goto dX10_mayFold_30 (tgt := 34) rfl (e_iret dX10_mayFold_34)))
  · refine ev_st (pc' := 10) (L' := [xR a, xI i0]) (st' := [xI 1, xI (R a 8)]) (fun _ _ _ k => e_aload_n dX10_mayFold_5 rfl (i := 0) (x := a) rfl (e_geti dX10_mayFold_6 flX10_75 (kd10_0 h_a) (Or.inl rfl) (e_iconst dX10_mayFold_9 (k4 rfl) k))) ?_
    refine ev_br2 (P := (R a 8) ≤ 1) (pct := 17) (pcf := 13) (st' := []) (fun _ _ _ kt kf => e_cle dX10_mayFold_10 (tgt := 17) rfl kt kf) (fun h3 => ?_) (fun h3 => ?_)
    · exact ev_ret (e_iconst dX10_mayFold_17 (k4 rfl) (e_goto dX10_mayFold_18 (tgt := 34) rfl (e_iret dX10_mayFold_34)))
    · exact ev_ret (e_iconst dX10_mayFold_13 (k4 rfl) (e_goto dX10_mayFold_14 (tgt := 34) rfl (e_iret dX10_mayFold_34)))
def f_X10_takeLayer (a : Nat) (i0 : Int) (i1 : Int) (i2 : Int) (R : xN) : Option (xN) :=
  if 0 ≤ i1 ∧ i1 < 16 then
  if 0 ≤ i0 ∧ i0 < 16 then
  xlet (xup R (a + 5) (i0).toNat (R (a + 9) (i1).toNat)) (fun R3 =>
  if i2 = 0 then
  if 0 ≤ i1 ∧ i1 < 16 then
  if 0 ≤ i0 ∧ i0 < 16 then
  xlet (xup R3 (a + 6) (i0).toNat (R3 (a + 10) (i1).toNat)) (fun R7 =>
  if i2 = 1 then
  if 0 ≤ i1 ∧ i1 < 16 then
  if 0 ≤ i0 ∧ i0 < 16 then
  xlet (xup R7 (a + 7) (i0).toNat (w4 (1 - (R7 (a + 11) (i1).toNat)))) (fun R11 =>
  if i2 = 2 then
  if 0 ≤ i1 ∧ i1 < 16 then
  if 0 ≤ i0 ∧ i0 < 16 then
  xlet (xup R11 (a + 8) (i0).toNat (w4 (1 - (R11 (a + 12) (i1).toNat)))) (fun R15 =>
  some R15)
  else none
  else none
  else
  if 0 ≤ i1 ∧ i1 < 16 then
  if 0 ≤ i0 ∧ i0 < 16 then
  xlet (xup R11 (a + 8) (i0).toNat (R11 (a + 12) (i1).toNat)) (fun R18 =>
  some R18)
  else none
  else none)
  else none
  else none
  else
  if 0 ≤ i1 ∧ i1 < 16 then
  if 0 ≤ i0 ∧ i0 < 16 then
  xlet (xup R7 (a + 7) (i0).toNat (R7 (a + 11) (i1).toNat)) (fun R21 =>
  if i2 = 2 then
  if 0 ≤ i1 ∧ i1 < 16 then
  if 0 ≤ i0 ∧ i0 < 16 then
  xlet (xup R21 (a + 8) (i0).toNat (w4 (1 - (R21 (a + 12) (i1).toNat)))) (fun R25 =>
  some R25)
  else none
  else none
  else
  if 0 ≤ i1 ∧ i1 < 16 then
  if 0 ≤ i0 ∧ i0 < 16 then
  xlet (xup R21 (a + 8) (i0).toNat (R21 (a + 12) (i1).toNat)) (fun R28 =>
  some R28)
  else none
  else none)
  else none
  else none)
  else none
  else none
  else
  if 0 ≤ i1 ∧ i1 < 16 then
  if 0 ≤ i0 ∧ i0 < 16 then
  xlet (xup R3 (a + 6) (i0).toNat (w4 (1 - (R3 (a + 10) (i1).toNat)))) (fun R31 =>
  if i2 = 1 then
  if 0 ≤ i1 ∧ i1 < 16 then
  if 0 ≤ i0 ∧ i0 < 16 then
  xlet (xup R31 (a + 7) (i0).toNat (w4 (1 - (R31 (a + 11) (i1).toNat)))) (fun R35 =>
  if i2 = 2 then
  if 0 ≤ i1 ∧ i1 < 16 then
  if 0 ≤ i0 ∧ i0 < 16 then
  xlet (xup R35 (a + 8) (i0).toNat (w4 (1 - (R35 (a + 12) (i1).toNat)))) (fun R39 =>
  some R39)
  else none
  else none
  else
  if 0 ≤ i1 ∧ i1 < 16 then
  if 0 ≤ i0 ∧ i0 < 16 then
  xlet (xup R35 (a + 8) (i0).toNat (R35 (a + 12) (i1).toNat)) (fun R42 =>
  some R42)
  else none
  else none)
  else none
  else none
  else
  if 0 ≤ i1 ∧ i1 < 16 then
  if 0 ≤ i0 ∧ i0 < 16 then
  xlet (xup R31 (a + 7) (i0).toNat (R31 (a + 11) (i1).toNat)) (fun R45 =>
  if i2 = 2 then
  if 0 ≤ i1 ∧ i1 < 16 then
  if 0 ≤ i0 ∧ i0 < 16 then
  xlet (xup R45 (a + 8) (i0).toNat (w4 (1 - (R45 (a + 12) (i1).toNat)))) (fun R49 =>
  some R49)
  else none
  else none
  else
  if 0 ≤ i1 ∧ i1 < 16 then
  if 0 ≤ i0 ∧ i0 < 16 then
  xlet (xup R45 (a + 8) (i0).toNat (R45 (a + 12) (i1).toNat)) (fun R52 =>
  some R52)
  else none
  else none)
  else none
  else none)
  else none
  else none)
  else none
  else none
set_option maxRecDepth 20000 in
set_option maxHeartbeats 4000000 in
theorem c_X10_takeLayer {l : Launch} {g : xG} {d : Nat} {A : xA} {R : xN} {a : Nat} (h_a : sh 10 A a) (i0 : Int) (i1 : Int) (i2 : Int) : Ev l g (d) mX10_takeLayer 0 [xR a, xI i0, xI i1, xI i2] [] A R (fun _ : xN => none) (fun v => v) (f_X10_takeLayer a i0 i1 i2 R) := by
  rw [f_X10_takeLayer]
  refine ev_st (pc' := 10) (L' := [xR a, xI i0, xI i1, xI i2]) (st' := [xI i1, xR (a + 9), xI i0, xR (a + 5)]) (fun _ _ _ k => e_aload_n dX10_takeLayer_0 rfl (i := 0) (x := a) rfl (e_getr dX10_takeLayer_1 flX10_22 (kd10_0 h_a) rfl (rf10_0_10 h_a) (e_iload_n dX10_takeLayer_4 rfl (i := 1) (x := i0) rfl (e_aload_n dX10_takeLayer_5 rfl (i := 0) (x := a) rfl (e_getr dX10_takeLayer_6 flX10_34 (kd10_0 h_a) rfl (rf10_0_14 h_a) (e_iload_n dX10_takeLayer_9 rfl (i := 2) (x := i1) rfl k)))))) ?_
  refine ev_chk (fun h1 => ?_)
  refine ev_st (pc' := 11) (L' := [xR a, xI i0, xI i1, xI i2]) (st' := [xI (R (a + 9) (i1).toNat), xI i0, xR (a + 5)]) (fun _ _ _ k => e_iald dX10_takeLayer_10 (kd10_9 h_a) h1.1 h1.2 k) ?_
  refine ev_chk (fun h2 => ?_)
  refine ev_st (pc' := 12) (L' := [xR a, xI i0, xI i1, xI i2]) (st' := []) (fun _ _ _ k => e_iast dX10_takeLayer_11 (kd10_5 h_a) h2.1 h2.2 k) ?_
  refine ev_letR (fun R3 eR3 => ?_)
  refine ev_st (pc' := 18) (L' := [xR a, xI i0, xI i1, xI i2]) (st' := [xI i2, xI i0, xR (a + 6)]) (fun _ _ _ k => e_aload_n dX10_takeLayer_12 rfl (i := 0) (x := a) rfl (e_getr dX10_takeLayer_13 flX10_25 (kd10_0 h_a) rfl (rf10_0_11 h_a) (e_iload_n dX10_takeLayer_16 rfl (i := 1) (x := i0) rfl (e_iload_n dX10_takeLayer_17 rfl (i := 3) (x := i2) rfl k)))) ?_
  refine ev_br2 (P := i2 = 0) (pct := 21) (pcf := 30) (st' := [xI i0, xR (a + 6)]) (fun _ _ _ kt kf => e_ifne dX10_takeLayer_18 (tgt := 30) rfl kt kf) (fun h4 => ?_) (fun h4 => ?_)
  · refine ev_st (pc' := 26) (L' := [xR a, xI i0, xI i1, xI i2]) (st' := [xI i1, xR (a + 10), xI i0, xR (a + 6)]) (fun _ _ _ k => e_aload_n dX10_takeLayer_21 rfl (i := 0) (x := a) rfl (e_getr dX10_takeLayer_22 flX10_37 (kd10_0 h_a) rfl (rf10_0_15 h_a) (e_iload_n dX10_takeLayer_25 rfl (i := 2) (x := i1) rfl k))) ?_
    refine ev_chk (fun h5 => ?_)
    refine ev_st (pc' := 27) (L' := [xR a, xI i0, xI i1, xI i2]) (st' := [xI (R3 (a + 10) (i1).toNat), xI i0, xR (a + 6)]) (fun _ _ _ k => e_iald dX10_takeLayer_26 (kd10_10 h_a) h5.1 h5.2 k) ?_
    refine ev_st (pc' := 38) (L' := [xR a, xI i0, xI i1, xI i2]) (st' := [xI (R3 (a + 10) (i1).toNat), xI i0, xR (a + 6)]) (fun _ _ _ k => e_goto dX10_takeLayer_27 (tgt := 38) rfl k) ?_
    refine ev_chk (fun h6 => ?_)
    refine ev_st (pc' := 39) (L' := [xR a, xI i0, xI i1, xI i2]) (st' := []) (fun _ _ _ k => e_iast dX10_takeLayer_38 (kd10_6 h_a) h6.1 h6.2 k) ?_
    refine ev_letR (fun R7 eR7 => ?_)
    refine ev_st (pc' := 46) (L' := [xR a, xI i0, xI i1, xI i2]) (st' := [xI 1, xI i2, xI i0, xR (a + 7)]) (fun _ _ _ k => e_aload_n dX10_takeLayer_39 rfl (i := 0) (x := a) rfl (e_getr dX10_takeLayer_40 flX10_28 (kd10_0 h_a) rfl (rf10_0_12 h_a) (e_iload_n dX10_takeLayer_43 rfl (i := 1) (x := i0) rfl (e_iload_n dX10_takeLayer_44 rfl (i := 3) (x := i2) rfl (e_iconst dX10_takeLayer_45 (k4 rfl) k))))) ?_
    refine ev_br2 (P := i2 = 1) (pct := 49) (pcf := 60) (st' := [xI i0, xR (a + 7)]) (fun _ _ _ kt kf => e_cne dX10_takeLayer_46 (tgt := 60) rfl kt kf) (fun h8 => ?_) (fun h8 => ?_)
    · refine ev_st (pc' := 55) (L' := [xR a, xI i0, xI i1, xI i2]) (st' := [xI i1, xR (a + 11), xI 1, xI i0, xR (a + 7)]) (fun _ _ _ k => e_iconst dX10_takeLayer_49 (k4 rfl) (e_aload_n dX10_takeLayer_50 rfl (i := 0) (x := a) rfl (e_getr dX10_takeLayer_51 flX10_40 (kd10_0 h_a) rfl (rf10_0_16 h_a) (e_iload_n dX10_takeLayer_54 rfl (i := 2) (x := i1) rfl k)))) ?_
      refine ev_chk (fun h9 => ?_)
      refine ev_st (pc' := 56) (L' := [xR a, xI i0, xI i1, xI i2]) (st' := [xI (R7 (a + 11) (i1).toNat), xI 1, xI i0, xR (a + 7)]) (fun _ _ _ k => e_iald dX10_takeLayer_55 (kd10_11 h_a) h9.1 h9.2 k) ?_
      refine ev_st (pc' := 66) (L' := [xR a, xI i0, xI i1, xI i2]) (st' := [xI (w4 (1 - (R7 (a + 11) (i1).toNat))), xI i0, xR (a + 7)]) (fun _ _ _ k => e_isub dX10_takeLayer_56 (e_goto dX10_takeLayer_57 (tgt := 66) rfl k)) ?_
      refine ev_chk (fun h10 => ?_)
      refine ev_st (pc' := 67) (L' := [xR a, xI i0, xI i1, xI i2]) (st' := []) (fun _ _ _ k => e_iast dX10_takeLayer_66 (kd10_7 h_a) h10.1 h10.2 k) ?_
      refine ev_letR (fun R11 eR11 => ?_)
      refine ev_st (pc' := 74) (L' := [xR a, xI i0, xI i1, xI i2]) (st' := [xI 2, xI i2, xI i0, xR (a + 8)]) (fun _ _ _ k => e_aload_n dX10_takeLayer_67 rfl (i := 0) (x := a) rfl (e_getr dX10_takeLayer_68 flX10_31 (kd10_0 h_a) rfl (rf10_0_13 h_a) (e_iload_n dX10_takeLayer_71 rfl (i := 1) (x := i0) rfl (e_iload_n dX10_takeLayer_72 rfl (i := 3) (x := i2) rfl (e_iconst dX10_takeLayer_73 (k4 rfl) k))))) ?_
      refine ev_br2 (P := i2 = 2) (pct := 77) (pcf := 88) (st' := [xI i0, xR (a + 8)]) (fun _ _ _ kt kf => e_cne dX10_takeLayer_74 (tgt := 88) rfl kt kf) (fun h12 => ?_) (fun h12 => ?_)
      · refine ev_st (pc' := 83) (L' := [xR a, xI i0, xI i1, xI i2]) (st' := [xI i1, xR (a + 12), xI 1, xI i0, xR (a + 8)]) (fun _ _ _ k => e_iconst dX10_takeLayer_77 (k4 rfl) (e_aload_n dX10_takeLayer_78 rfl (i := 0) (x := a) rfl (e_getr dX10_takeLayer_79 flX10_43 (kd10_0 h_a) rfl (rf10_0_17 h_a) (e_iload_n dX10_takeLayer_82 rfl (i := 2) (x := i1) rfl k)))) ?_
        refine ev_chk (fun h13 => ?_)
        refine ev_st (pc' := 84) (L' := [xR a, xI i0, xI i1, xI i2]) (st' := [xI (R11 (a + 12) (i1).toNat), xI 1, xI i0, xR (a + 8)]) (fun _ _ _ k => e_iald dX10_takeLayer_83 (kd10_12 h_a) h13.1 h13.2 k) ?_
        refine ev_st (pc' := 94) (L' := [xR a, xI i0, xI i1, xI i2]) (st' := [xI (w4 (1 - (R11 (a + 12) (i1).toNat))), xI i0, xR (a + 8)]) (fun _ _ _ k => e_isub dX10_takeLayer_84 (e_goto dX10_takeLayer_85 (tgt := 94) rfl k)) ?_
        refine ev_chk (fun h14 => ?_)
        refine ev_st (pc' := 95) (L' := [xR a, xI i0, xI i1, xI i2]) (st' := []) (fun _ _ _ k => e_iast dX10_takeLayer_94 (kd10_8 h_a) h14.1 h14.2 k) ?_
        refine ev_letR (fun R15 eR15 => ?_)
        exact ev_ret (e_vret dX10_takeLayer_95)
      · refine ev_st (pc' := 93) (L' := [xR a, xI i0, xI i1, xI i2]) (st' := [xI i1, xR (a + 12), xI i0, xR (a + 8)]) (fun _ _ _ k => e_aload_n dX10_takeLayer_88 rfl (i := 0) (x := a) rfl (e_getr dX10_takeLayer_89 flX10_43 (kd10_0 h_a) rfl (rf10_0_17 h_a) (e_iload_n dX10_takeLayer_92 rfl (i := 2) (x := i1) rfl k))) ?_
        refine ev_chk (fun h16 => ?_)
        refine ev_st (pc' := 94) (L' := [xR a, xI i0, xI i1, xI i2]) (st' := [xI (R11 (a + 12) (i1).toNat), xI i0, xR (a + 8)]) (fun _ _ _ k => e_iald dX10_takeLayer_93 (kd10_12 h_a) h16.1 h16.2 k) ?_
        refine ev_chk (fun h17 => ?_)
        refine ev_st (pc' := 95) (L' := [xR a, xI i0, xI i1, xI i2]) (st' := []) (fun _ _ _ k => e_iast dX10_takeLayer_94 (kd10_8 h_a) h17.1 h17.2 k) ?_
        refine ev_letR (fun R18 eR18 => ?_)
        exact ev_ret (e_vret dX10_takeLayer_95)
    · refine ev_st (pc' := 65) (L' := [xR a, xI i0, xI i1, xI i2]) (st' := [xI i1, xR (a + 11), xI i0, xR (a + 7)]) (fun _ _ _ k => e_aload_n dX10_takeLayer_60 rfl (i := 0) (x := a) rfl (e_getr dX10_takeLayer_61 flX10_40 (kd10_0 h_a) rfl (rf10_0_16 h_a) (e_iload_n dX10_takeLayer_64 rfl (i := 2) (x := i1) rfl k))) ?_
      refine ev_chk (fun h19 => ?_)
      refine ev_st (pc' := 66) (L' := [xR a, xI i0, xI i1, xI i2]) (st' := [xI (R7 (a + 11) (i1).toNat), xI i0, xR (a + 7)]) (fun _ _ _ k => e_iald dX10_takeLayer_65 (kd10_11 h_a) h19.1 h19.2 k) ?_
      refine ev_chk (fun h20 => ?_)
      refine ev_st (pc' := 67) (L' := [xR a, xI i0, xI i1, xI i2]) (st' := []) (fun _ _ _ k => e_iast dX10_takeLayer_66 (kd10_7 h_a) h20.1 h20.2 k) ?_
      refine ev_letR (fun R21 eR21 => ?_)
      refine ev_st (pc' := 74) (L' := [xR a, xI i0, xI i1, xI i2]) (st' := [xI 2, xI i2, xI i0, xR (a + 8)]) (fun _ _ _ k => e_aload_n dX10_takeLayer_67 rfl (i := 0) (x := a) rfl (e_getr dX10_takeLayer_68 flX10_31 (kd10_0 h_a) rfl (rf10_0_13 h_a) (e_iload_n dX10_takeLayer_71 rfl (i := 1) (x := i0) rfl (e_iload_n dX10_takeLayer_72 rfl (i := 3) (x := i2) rfl (e_iconst dX10_takeLayer_73 (k4 rfl) k))))) ?_
      refine ev_br2 (P := i2 = 2) (pct := 77) (pcf := 88) (st' := [xI i0, xR (a + 8)]) (fun _ _ _ kt kf => e_cne dX10_takeLayer_74 (tgt := 88) rfl kt kf) (fun h22 => ?_) (fun h22 => ?_)
      · refine ev_st (pc' := 83) (L' := [xR a, xI i0, xI i1, xI i2]) (st' := [xI i1, xR (a + 12), xI 1, xI i0, xR (a + 8)]) (fun _ _ _ k => e_iconst dX10_takeLayer_77 (k4 rfl) (e_aload_n dX10_takeLayer_78 rfl (i := 0) (x := a) rfl (e_getr dX10_takeLayer_79 flX10_43 (kd10_0 h_a) rfl (rf10_0_17 h_a) (e_iload_n dX10_takeLayer_82 rfl (i := 2) (x := i1) rfl k)))) ?_
        refine ev_chk (fun h23 => ?_)
        refine ev_st (pc' := 84) (L' := [xR a, xI i0, xI i1, xI i2]) (st' := [xI (R21 (a + 12) (i1).toNat), xI 1, xI i0, xR (a + 8)]) (fun _ _ _ k => e_iald dX10_takeLayer_83 (kd10_12 h_a) h23.1 h23.2 k) ?_
        refine ev_st (pc' := 94) (L' := [xR a, xI i0, xI i1, xI i2]) (st' := [xI (w4 (1 - (R21 (a + 12) (i1).toNat))), xI i0, xR (a + 8)]) (fun _ _ _ k => e_isub dX10_takeLayer_84 (e_goto dX10_takeLayer_85 (tgt := 94) rfl k)) ?_
        refine ev_chk (fun h24 => ?_)
        refine ev_st (pc' := 95) (L' := [xR a, xI i0, xI i1, xI i2]) (st' := []) (fun _ _ _ k => e_iast dX10_takeLayer_94 (kd10_8 h_a) h24.1 h24.2 k) ?_
        refine ev_letR (fun R25 eR25 => ?_)
        exact ev_ret (e_vret dX10_takeLayer_95)
      · refine ev_st (pc' := 93) (L' := [xR a, xI i0, xI i1, xI i2]) (st' := [xI i1, xR (a + 12), xI i0, xR (a + 8)]) (fun _ _ _ k => e_aload_n dX10_takeLayer_88 rfl (i := 0) (x := a) rfl (e_getr dX10_takeLayer_89 flX10_43 (kd10_0 h_a) rfl (rf10_0_17 h_a) (e_iload_n dX10_takeLayer_92 rfl (i := 2) (x := i1) rfl k))) ?_
        refine ev_chk (fun h26 => ?_)
        refine ev_st (pc' := 94) (L' := [xR a, xI i0, xI i1, xI i2]) (st' := [xI (R21 (a + 12) (i1).toNat), xI i0, xR (a + 8)]) (fun _ _ _ k => e_iald dX10_takeLayer_93 (kd10_12 h_a) h26.1 h26.2 k) ?_
        refine ev_chk (fun h27 => ?_)
        refine ev_st (pc' := 95) (L' := [xR a, xI i0, xI i1, xI i2]) (st' := []) (fun _ _ _ k => e_iast dX10_takeLayer_94 (kd10_8 h_a) h27.1 h27.2 k) ?_
        refine ev_letR (fun R28 eR28 => ?_)
        exact ev_ret (e_vret dX10_takeLayer_95)
  · refine ev_st (pc' := 36) (L' := [xR a, xI i0, xI i1, xI i2]) (st' := [xI i1, xR (a + 10), xI 1, xI i0, xR (a + 6)]) (fun _ _ _ k => e_iconst dX10_takeLayer_30 (k4 rfl) (e_aload_n dX10_takeLayer_31 rfl (i := 0) (x := a) rfl (e_getr dX10_takeLayer_32 flX10_37 (kd10_0 h_a) rfl (rf10_0_15 h_a) (e_iload_n dX10_takeLayer_35 rfl (i := 2) (x := i1) rfl k)))) ?_
    refine ev_chk (fun h29 => ?_)
    refine ev_st (pc' := 37) (L' := [xR a, xI i0, xI i1, xI i2]) (st' := [xI (R3 (a + 10) (i1).toNat), xI 1, xI i0, xR (a + 6)]) (fun _ _ _ k => e_iald dX10_takeLayer_36 (kd10_10 h_a) h29.1 h29.2 k) ?_
    refine ev_st (pc' := 38) (L' := [xR a, xI i0, xI i1, xI i2]) (st' := [xI (w4 (1 - (R3 (a + 10) (i1).toNat))), xI i0, xR (a + 6)]) (fun _ _ _ k => e_isub dX10_takeLayer_37 k) ?_
    refine ev_chk (fun h30 => ?_)
    refine ev_st (pc' := 39) (L' := [xR a, xI i0, xI i1, xI i2]) (st' := []) (fun _ _ _ k => e_iast dX10_takeLayer_38 (kd10_6 h_a) h30.1 h30.2 k) ?_
    refine ev_letR (fun R31 eR31 => ?_)
    refine ev_st (pc' := 46) (L' := [xR a, xI i0, xI i1, xI i2]) (st' := [xI 1, xI i2, xI i0, xR (a + 7)]) (fun _ _ _ k => e_aload_n dX10_takeLayer_39 rfl (i := 0) (x := a) rfl (e_getr dX10_takeLayer_40 flX10_28 (kd10_0 h_a) rfl (rf10_0_12 h_a) (e_iload_n dX10_takeLayer_43 rfl (i := 1) (x := i0) rfl (e_iload_n dX10_takeLayer_44 rfl (i := 3) (x := i2) rfl (e_iconst dX10_takeLayer_45 (k4 rfl) k))))) ?_
    refine ev_br2 (P := i2 = 1) (pct := 49) (pcf := 60) (st' := [xI i0, xR (a + 7)]) (fun _ _ _ kt kf => e_cne dX10_takeLayer_46 (tgt := 60) rfl kt kf) (fun h32 => ?_) (fun h32 => ?_)
    · refine ev_st (pc' := 55) (L' := [xR a, xI i0, xI i1, xI i2]) (st' := [xI i1, xR (a + 11), xI 1, xI i0, xR (a + 7)]) (fun _ _ _ k => e_iconst dX10_takeLayer_49 (k4 rfl) (e_aload_n dX10_takeLayer_50 rfl (i := 0) (x := a) rfl (e_getr dX10_takeLayer_51 flX10_40 (kd10_0 h_a) rfl (rf10_0_16 h_a) (e_iload_n dX10_takeLayer_54 rfl (i := 2) (x := i1) rfl k)))) ?_
      refine ev_chk (fun h33 => ?_)
      refine ev_st (pc' := 56) (L' := [xR a, xI i0, xI i1, xI i2]) (st' := [xI (R31 (a + 11) (i1).toNat), xI 1, xI i0, xR (a + 7)]) (fun _ _ _ k => e_iald dX10_takeLayer_55 (kd10_11 h_a) h33.1 h33.2 k) ?_
      refine ev_st (pc' := 66) (L' := [xR a, xI i0, xI i1, xI i2]) (st' := [xI (w4 (1 - (R31 (a + 11) (i1).toNat))), xI i0, xR (a + 7)]) (fun _ _ _ k => e_isub dX10_takeLayer_56 (e_goto dX10_takeLayer_57 (tgt := 66) rfl k)) ?_
      refine ev_chk (fun h34 => ?_)
      refine ev_st (pc' := 67) (L' := [xR a, xI i0, xI i1, xI i2]) (st' := []) (fun _ _ _ k => e_iast dX10_takeLayer_66 (kd10_7 h_a) h34.1 h34.2 k) ?_
      refine ev_letR (fun R35 eR35 => ?_)
      refine ev_st (pc' := 74) (L' := [xR a, xI i0, xI i1, xI i2]) (st' := [xI 2, xI i2, xI i0, xR (a + 8)]) (fun _ _ _ k => e_aload_n dX10_takeLayer_67 rfl (i := 0) (x := a) rfl (e_getr dX10_takeLayer_68 flX10_31 (kd10_0 h_a) rfl (rf10_0_13 h_a) (e_iload_n dX10_takeLayer_71 rfl (i := 1) (x := i0) rfl (e_iload_n dX10_takeLayer_72 rfl (i := 3) (x := i2) rfl (e_iconst dX10_takeLayer_73 (k4 rfl) k))))) ?_
      refine ev_br2 (P := i2 = 2) (pct := 77) (pcf := 88) (st' := [xI i0, xR (a + 8)]) (fun _ _ _ kt kf => e_cne dX10_takeLayer_74 (tgt := 88) rfl kt kf) (fun h36 => ?_) (fun h36 => ?_)
      · refine ev_st (pc' := 83) (L' := [xR a, xI i0, xI i1, xI i2]) (st' := [xI i1, xR (a + 12), xI 1, xI i0, xR (a + 8)]) (fun _ _ _ k => e_iconst dX10_takeLayer_77 (k4 rfl) (e_aload_n dX10_takeLayer_78 rfl (i := 0) (x := a) rfl (e_getr dX10_takeLayer_79 flX10_43 (kd10_0 h_a) rfl (rf10_0_17 h_a) (e_iload_n dX10_takeLayer_82 rfl (i := 2) (x := i1) rfl k)))) ?_
        refine ev_chk (fun h37 => ?_)
        refine ev_st (pc' := 84) (L' := [xR a, xI i0, xI i1, xI i2]) (st' := [xI (R35 (a + 12) (i1).toNat), xI 1, xI i0, xR (a + 8)]) (fun _ _ _ k => e_iald dX10_takeLayer_83 (kd10_12 h_a) h37.1 h37.2 k) ?_
        refine ev_st (pc' := 94) (L' := [xR a, xI i0, xI i1, xI i2]) (st' := [xI (w4 (1 - (R35 (a + 12) (i1).toNat))), xI i0, xR (a + 8)]) (fun _ _ _ k => e_isub dX10_takeLayer_84 (e_goto dX10_takeLayer_85 (tgt := 94) rfl k)) ?_
        refine ev_chk (fun h38 => ?_)
        refine ev_st (pc' := 95) (L' := [xR a, xI i0, xI i1, xI i2]) (st' := []) (fun _ _ _ k => e_iast dX10_takeLayer_94 (kd10_8 h_a) h38.1 h38.2 k) ?_
        refine ev_letR (fun R39 eR39 => ?_)
        exact ev_ret (e_vret dX10_takeLayer_95)
      · refine ev_st (pc' := 93) (L' := [xR a, xI i0, xI i1, xI i2]) (st' := [xI i1, xR (a + 12), xI i0, xR (a + 8)]) (fun _ _ _ k => e_aload_n dX10_takeLayer_88 rfl (i := 0) (x := a) rfl (e_getr dX10_takeLayer_89 flX10_43 (kd10_0 h_a) rfl (rf10_0_17 h_a) (e_iload_n dX10_takeLayer_92 rfl (i := 2) (x := i1) rfl k))) ?_
        refine ev_chk (fun h40 => ?_)
        refine ev_st (pc' := 94) (L' := [xR a, xI i0, xI i1, xI i2]) (st' := [xI (R35 (a + 12) (i1).toNat), xI i0, xR (a + 8)]) (fun _ _ _ k => e_iald dX10_takeLayer_93 (kd10_12 h_a) h40.1 h40.2 k) ?_
        refine ev_chk (fun h41 => ?_)
        refine ev_st (pc' := 95) (L' := [xR a, xI i0, xI i1, xI i2]) (st' := []) (fun _ _ _ k => e_iast dX10_takeLayer_94 (kd10_8 h_a) h41.1 h41.2 k) ?_
        refine ev_letR (fun R42 eR42 => ?_)
        exact ev_ret (e_vret dX10_takeLayer_95)
    · refine ev_st (pc' := 65) (L' := [xR a, xI i0, xI i1, xI i2]) (st' := [xI i1, xR (a + 11), xI i0, xR (a + 7)]) (fun _ _ _ k => e_aload_n dX10_takeLayer_60 rfl (i := 0) (x := a) rfl (e_getr dX10_takeLayer_61 flX10_40 (kd10_0 h_a) rfl (rf10_0_16 h_a) (e_iload_n dX10_takeLayer_64 rfl (i := 2) (x := i1) rfl k))) ?_
      refine ev_chk (fun h43 => ?_)
      refine ev_st (pc' := 66) (L' := [xR a, xI i0, xI i1, xI i2]) (st' := [xI (R31 (a + 11) (i1).toNat), xI i0, xR (a + 7)]) (fun _ _ _ k => e_iald dX10_takeLayer_65 (kd10_11 h_a) h43.1 h43.2 k) ?_
      refine ev_chk (fun h44 => ?_)
      refine ev_st (pc' := 67) (L' := [xR a, xI i0, xI i1, xI i2]) (st' := []) (fun _ _ _ k => e_iast dX10_takeLayer_66 (kd10_7 h_a) h44.1 h44.2 k) ?_
      refine ev_letR (fun R45 eR45 => ?_)
      refine ev_st (pc' := 74) (L' := [xR a, xI i0, xI i1, xI i2]) (st' := [xI 2, xI i2, xI i0, xR (a + 8)]) (fun _ _ _ k => e_aload_n dX10_takeLayer_67 rfl (i := 0) (x := a) rfl (e_getr dX10_takeLayer_68 flX10_31 (kd10_0 h_a) rfl (rf10_0_13 h_a) (e_iload_n dX10_takeLayer_71 rfl (i := 1) (x := i0) rfl (e_iload_n dX10_takeLayer_72 rfl (i := 3) (x := i2) rfl (e_iconst dX10_takeLayer_73 (k4 rfl) k))))) ?_
      refine ev_br2 (P := i2 = 2) (pct := 77) (pcf := 88) (st' := [xI i0, xR (a + 8)]) (fun _ _ _ kt kf => e_cne dX10_takeLayer_74 (tgt := 88) rfl kt kf) (fun h46 => ?_) (fun h46 => ?_)
      · refine ev_st (pc' := 83) (L' := [xR a, xI i0, xI i1, xI i2]) (st' := [xI i1, xR (a + 12), xI 1, xI i0, xR (a + 8)]) (fun _ _ _ k => e_iconst dX10_takeLayer_77 (k4 rfl) (e_aload_n dX10_takeLayer_78 rfl (i := 0) (x := a) rfl (e_getr dX10_takeLayer_79 flX10_43 (kd10_0 h_a) rfl (rf10_0_17 h_a) (e_iload_n dX10_takeLayer_82 rfl (i := 2) (x := i1) rfl k)))) ?_
        refine ev_chk (fun h47 => ?_)
        refine ev_st (pc' := 84) (L' := [xR a, xI i0, xI i1, xI i2]) (st' := [xI (R45 (a + 12) (i1).toNat), xI 1, xI i0, xR (a + 8)]) (fun _ _ _ k => e_iald dX10_takeLayer_83 (kd10_12 h_a) h47.1 h47.2 k) ?_
        refine ev_st (pc' := 94) (L' := [xR a, xI i0, xI i1, xI i2]) (st' := [xI (w4 (1 - (R45 (a + 12) (i1).toNat))), xI i0, xR (a + 8)]) (fun _ _ _ k => e_isub dX10_takeLayer_84 (e_goto dX10_takeLayer_85 (tgt := 94) rfl k)) ?_
        refine ev_chk (fun h48 => ?_)
        refine ev_st (pc' := 95) (L' := [xR a, xI i0, xI i1, xI i2]) (st' := []) (fun _ _ _ k => e_iast dX10_takeLayer_94 (kd10_8 h_a) h48.1 h48.2 k) ?_
        refine ev_letR (fun R49 eR49 => ?_)
        exact ev_ret (e_vret dX10_takeLayer_95)
      · refine ev_st (pc' := 93) (L' := [xR a, xI i0, xI i1, xI i2]) (st' := [xI i1, xR (a + 12), xI i0, xR (a + 8)]) (fun _ _ _ k => e_aload_n dX10_takeLayer_88 rfl (i := 0) (x := a) rfl (e_getr dX10_takeLayer_89 flX10_43 (kd10_0 h_a) rfl (rf10_0_17 h_a) (e_iload_n dX10_takeLayer_92 rfl (i := 2) (x := i1) rfl k))) ?_
        refine ev_chk (fun h50 => ?_)
        refine ev_st (pc' := 94) (L' := [xR a, xI i0, xI i1, xI i2]) (st' := [xI (R45 (a + 12) (i1).toNat), xI i0, xR (a + 8)]) (fun _ _ _ k => e_iald dX10_takeLayer_93 (kd10_12 h_a) h50.1 h50.2 k) ?_
        refine ev_chk (fun h51 => ?_)
        refine ev_st (pc' := 95) (L' := [xR a, xI i0, xI i1, xI i2]) (st' := []) (fun _ _ _ k => e_iast dX10_takeLayer_94 (kd10_8 h_a) h51.1 h51.2 k) ?_
        refine ev_letR (fun R52 eR52 => ?_)
        exact ev_ret (e_vret dX10_takeLayer_95)
def lp_X10_foldBy_2 (a : Nat) (p1 : Int) : Nat → Int → xN → (Int → xN → Option (xN)) → Option (xN)
  | 0, _, _, _ => none
  | n + 1, y2, R, X =>
    if 16 ≤ y2 then
    X y2 R
    else
    if 0 ≤ y2 ∧ y2 < 16 then
    if 0 ≤ y2 ∧ y2 < 16 then
    xlet (xup R (a + 9) (y2).toNat (R (a + 5) (y2).toNat)) (fun R4 =>
    if 0 ≤ y2 ∧ y2 < 16 then
    if 0 ≤ y2 ∧ y2 < 16 then
    xlet (xup R4 (a + 10) (y2).toNat (R4 (a + 6) (y2).toNat)) (fun R7 =>
    if 0 ≤ y2 ∧ y2 < 16 then
    if 0 ≤ y2 ∧ y2 < 16 then
    xlet (xup R7 (a + 11) (y2).toNat (R7 (a + 7) (y2).toNat)) (fun R10 =>
    if 0 ≤ y2 ∧ y2 < 16 then
    if 0 ≤ y2 ∧ y2 < 16 then
    xlet (xup R10 (a + 12) (y2).toNat (R10 (a + 8) (y2).toNat)) (fun R13 =>
    xlet (w4 (y2 + 1)) (fun x14 =>
    lp_X10_foldBy_2 a p1 n x14 R13 X))
    else none
    else none)
    else none
    else none)
    else none
    else none)
    else none
    else none
def lp_X10_foldBy_234 (a : Nat) (p1 : Int) (p2 : Int) (p3 : Int) (p4 : Int) (p11 : Int) (p12 : Int) : Nat → Int → xN → (Int → xN → Option (xN)) → Option (xN)
  | 0, _, _, _ => none
  | n + 1, y13, R, X =>
    if (R a 9) ≤ y13 then
    X y13 R
    else
    xlet (if 3 ≤ p1 then 2 else 1) (fun t31 =>
    (f_X10_takeLayer a (w4 ((w4 ((w4 (2 * (R a 9))) * p4)) + y13)) (w4 ((w4 ((w4 (p12 + (R a 9))) - 1)) - y13)) t31 R).bind (fun v32 =>
    (f_X10_takeLayer a (w4 ((w4 ((w4 ((w4 (2 * (v32 a 9))) * p4)) + (v32 a 9))) + y13)) (w4 (p11 + y13)) 0 v32).bind (fun v33 =>
    xlet (w4 (y13 + 1)) (fun x34 =>
    lp_X10_foldBy_234 a p1 p2 p3 p4 p11 p12 n x34 v33 X))))
def lp_X10_foldBy_103 (a : Nat) (p1 : Int) (p2 : Int) (p3 : Int) : Nat → Int → xN → (Int → xN → Option (xN)) → Option (xN)
  | 0, _, _, _ => none
  | n + 1, y4, R, X =>
    if (w4 (p2 * p3)) ≤ y4 then
    X y4 R
    else
    if p3 ≠ 0 then
    xlet (w4 (Int.tdiv y4 p3)) (fun x21 =>
    if p3 ≠ 0 then
    xlet (Int.tmod y4 p3) (fun x23 =>
    xlet (if p1 = 3 then (w4 (x21 + p2)) else x21) (fun t24 =>
    xlet (if p1 = 1 then (w4 (x23 + p3)) else x23) (fun t25 =>
    xlet (if 3 ≤ p1 then (w4 ((w4 ((R a 7) - 1)) - t24)) else x21) (fun t26 =>
    xlet (if 3 ≤ p1 then x23 else (w4 ((w4 ((R a 8) - 1)) - t25))) (fun t27 =>
    xlet (w4 ((R a 9) * (w4 ((w4 ((R a 8) * t24)) + t25)))) (fun x28 =>
    xlet (w4 ((R a 9) * (w4 ((w4 ((R a 8) * t26)) + t27)))) (fun x29 =>
    lp_X10_foldBy_234 a p1 p2 p3 y4 x28 x29 6000 0 R (fun z35 R36 =>
    xlet (w4 (y4 + 1)) (fun x37 =>
    lp_X10_foldBy_103 a p1 p2 p3 n x37 R36 X)))))))))
    else none)
    else none
def f_X10_foldBy (a : Nat) (i0 : Int) (R : xN) : Option (xN) :=
  lp_X10_foldBy_2 a i0 6000 0 R (fun z15 R16 =>
  xlet (if 3 ≤ i0 then (w4 (Int.tdiv (R16 a 7) 2)) else (R16 a 7)) (fun t17 =>
  xlet (if 3 ≤ i0 then (R16 a 8) else (w4 (Int.tdiv (R16 a 8) 2))) (fun t18 =>
  lp_X10_foldBy_103 a i0 t17 t18 6000 0 R16 (fun z38 R39 =>
  xlet (xup R39 a 7 t17) (fun R40 =>
  xlet (xup R40 a 8 t18) (fun R41 =>
  xlet (xup R41 a 9 (w4 (2 * (R41 a 9)))) (fun R42 =>
  some R42)))))))
set_option maxRecDepth 20000 in
set_option maxHeartbeats 4000000 in
theorem lc_X10_foldBy_2 {l : Launch} {g : xG} {d : Nat} {A : xA} {a : Nat} (h_a : sh 10 A a) (p1 : Int) {X : Int → xN → Option (xN)} (hX : ∀ (y2 : Int) (R : xN), Ev l g (d + 1) mX10_foldBy 62 [xR a, xI p1, xU, xU, xU, xU, xU, xU, xU, xU, xU, xU, xU, xU] [] A R (fun _ : xN => none) (fun v => v) (X y2 R)) (n : Nat) (y2 : Int) (R : xN) : Ev l g (d + 1) mX10_foldBy 2 [xR a, xI p1, xI y2, xU, xU, xU, xU, xU, xU, xU, xU, xU, xU, xU] [] A R (fun _ : xN => none) (fun v => v) (lp_X10_foldBy_2 a p1 n y2 R X) := by
  induction n generalizing y2 R with
  | zero => exact ev_none
  | succ n ih =>
    rw [lp_X10_foldBy_2]
    refine ev_st (pc' := 5) (L' := [xR a, xI p1, xI y2, xU, xU, xU, xU, xU, xU, xU, xU, xU, xU, xU]) (st' := [xI 16, xI y2]) (fun _ _ _ k => e_iload_n dX10_foldBy_2 rfl (i := 2) (x := y2) rfl (e_bipush dX10_foldBy_3 rfl (k4 rfl) k)) ?_
    refine ev_br2 (P := 16 ≤ y2) (pct := 62) (pcf := 8) (st' := []) (fun _ _ _ kt kf => e_cge dX10_foldBy_5 (tgt := 62) rfl kt kf) (fun h1 => ?_) (fun h1 => ?_)
    · refine ev_st (pc' := 62) (L' := [xR a, xI p1, xU, xU, xU, xU, xU, xU, xU, xU, xU, xU, xU, xU]) (st' := []) (fun _ _ _ k => e_fg [2] k) ?_
      exact hX y2 R
    · refine ev_st (pc' := 18) (L' := [xR a, xI p1, xI y2, xU, xU, xU, xU, xU, xU, xU, xU, xU, xU, xU]) (st' := [xI y2, xR (a + 5), xI y2, xR (a + 9)]) (fun _ _ _ k => e_aload_n dX10_foldBy_8 rfl (i := 0) (x := a) rfl (e_getr dX10_foldBy_9 flX10_34 (kd10_0 h_a) rfl (rf10_0_14 h_a) (e_iload_n dX10_foldBy_12 rfl (i := 2) (x := y2) rfl (e_aload_n dX10_foldBy_13 rfl (i := 0) (x := a) rfl (e_getr dX10_foldBy_14 flX10_22 (kd10_0 h_a) rfl (rf10_0_10 h_a) (e_iload_n dX10_foldBy_17 rfl (i := 2) (x := y2) rfl k)))))) ?_
      refine ev_chk (fun h2 => ?_)
      refine ev_st (pc' := 19) (L' := [xR a, xI p1, xI y2, xU, xU, xU, xU, xU, xU, xU, xU, xU, xU, xU]) (st' := [xI (R (a + 5) (y2).toNat), xI y2, xR (a + 9)]) (fun _ _ _ k => e_iald dX10_foldBy_18 (kd10_5 h_a) h2.1 h2.2 k) ?_
      refine ev_chk (fun h3 => ?_)
      refine ev_st (pc' := 20) (L' := [xR a, xI p1, xI y2, xU, xU, xU, xU, xU, xU, xU, xU, xU, xU, xU]) (st' := []) (fun _ _ _ k => e_iast dX10_foldBy_19 (kd10_9 h_a) h3.1 h3.2 k) ?_
      refine ev_letR (fun R4 eR4 => ?_)
      refine ev_st (pc' := 30) (L' := [xR a, xI p1, xI y2, xU, xU, xU, xU, xU, xU, xU, xU, xU, xU, xU]) (st' := [xI y2, xR (a + 6), xI y2, xR (a + 10)]) (fun _ _ _ k => e_aload_n dX10_foldBy_20 rfl (i := 0) (x := a) rfl (e_getr dX10_foldBy_21 flX10_37 (kd10_0 h_a) rfl (rf10_0_15 h_a) (e_iload_n dX10_foldBy_24 rfl (i := 2) (x := y2) rfl (e_aload_n dX10_foldBy_25 rfl (i := 0) (x := a) rfl (e_getr dX10_foldBy_26 flX10_25 (kd10_0 h_a) rfl (rf10_0_11 h_a) (e_iload_n dX10_foldBy_29 rfl (i := 2) (x := y2) rfl k)))))) ?_
      refine ev_chk (fun h5 => ?_)
      refine ev_st (pc' := 31) (L' := [xR a, xI p1, xI y2, xU, xU, xU, xU, xU, xU, xU, xU, xU, xU, xU]) (st' := [xI (R4 (a + 6) (y2).toNat), xI y2, xR (a + 10)]) (fun _ _ _ k => e_iald dX10_foldBy_30 (kd10_6 h_a) h5.1 h5.2 k) ?_
      refine ev_chk (fun h6 => ?_)
      refine ev_st (pc' := 32) (L' := [xR a, xI p1, xI y2, xU, xU, xU, xU, xU, xU, xU, xU, xU, xU, xU]) (st' := []) (fun _ _ _ k => e_iast dX10_foldBy_31 (kd10_10 h_a) h6.1 h6.2 k) ?_
      refine ev_letR (fun R7 eR7 => ?_)
      refine ev_st (pc' := 42) (L' := [xR a, xI p1, xI y2, xU, xU, xU, xU, xU, xU, xU, xU, xU, xU, xU]) (st' := [xI y2, xR (a + 7), xI y2, xR (a + 11)]) (fun _ _ _ k => e_aload_n dX10_foldBy_32 rfl (i := 0) (x := a) rfl (e_getr dX10_foldBy_33 flX10_40 (kd10_0 h_a) rfl (rf10_0_16 h_a) (e_iload_n dX10_foldBy_36 rfl (i := 2) (x := y2) rfl (e_aload_n dX10_foldBy_37 rfl (i := 0) (x := a) rfl (e_getr dX10_foldBy_38 flX10_28 (kd10_0 h_a) rfl (rf10_0_12 h_a) (e_iload_n dX10_foldBy_41 rfl (i := 2) (x := y2) rfl k)))))) ?_
      refine ev_chk (fun h8 => ?_)
      refine ev_st (pc' := 43) (L' := [xR a, xI p1, xI y2, xU, xU, xU, xU, xU, xU, xU, xU, xU, xU, xU]) (st' := [xI (R7 (a + 7) (y2).toNat), xI y2, xR (a + 11)]) (fun _ _ _ k => e_iald dX10_foldBy_42 (kd10_7 h_a) h8.1 h8.2 k) ?_
      refine ev_chk (fun h9 => ?_)
      refine ev_st (pc' := 44) (L' := [xR a, xI p1, xI y2, xU, xU, xU, xU, xU, xU, xU, xU, xU, xU, xU]) (st' := []) (fun _ _ _ k => e_iast dX10_foldBy_43 (kd10_11 h_a) h9.1 h9.2 k) ?_
      refine ev_letR (fun R10 eR10 => ?_)
      refine ev_st (pc' := 54) (L' := [xR a, xI p1, xI y2, xU, xU, xU, xU, xU, xU, xU, xU, xU, xU, xU]) (st' := [xI y2, xR (a + 8), xI y2, xR (a + 12)]) (fun _ _ _ k => e_aload_n dX10_foldBy_44 rfl (i := 0) (x := a) rfl (e_getr dX10_foldBy_45 flX10_43 (kd10_0 h_a) rfl (rf10_0_17 h_a) (e_iload_n dX10_foldBy_48 rfl (i := 2) (x := y2) rfl (e_aload_n dX10_foldBy_49 rfl (i := 0) (x := a) rfl (e_getr dX10_foldBy_50 flX10_31 (kd10_0 h_a) rfl (rf10_0_13 h_a) (e_iload_n dX10_foldBy_53 rfl (i := 2) (x := y2) rfl k)))))) ?_
      refine ev_chk (fun h11 => ?_)
      refine ev_st (pc' := 55) (L' := [xR a, xI p1, xI y2, xU, xU, xU, xU, xU, xU, xU, xU, xU, xU, xU]) (st' := [xI (R10 (a + 8) (y2).toNat), xI y2, xR (a + 12)]) (fun _ _ _ k => e_iald dX10_foldBy_54 (kd10_8 h_a) h11.1 h11.2 k) ?_
      refine ev_chk (fun h12 => ?_)
      refine ev_st (pc' := 56) (L' := [xR a, xI p1, xI y2, xU, xU, xU, xU, xU, xU, xU, xU, xU, xU, xU]) (st' := []) (fun _ _ _ k => e_iast dX10_foldBy_55 (kd10_12 h_a) h12.1 h12.2 k) ?_
      refine ev_letR (fun R13 eR13 => ?_)
      refine ev_letx (fun x14 ex14 => ?_)
      refine ev_st (pc' := 59) (L' := [xR a, xI p1, xI x14, xU, xU, xU, xU, xU, xU, xU, xU, xU, xU, xU]) (st' := []) (fun _ _ _ k => e_iinc dX10_foldBy_56 (i := 2) rfl (x := y2) rfl (y := x14) ex14 (L' := [xR a, xI p1, xI x14, xU, xU, xU, xU, xU, xU, xU, xU, xU, xU, xU]) rfl k) ?_
      refine ev_st (pc' := 2) (L' := [xR a, xI p1, xI x14, xU, xU, xU, xU, xU, xU, xU, xU, xU, xU, xU]) (st' := []) (fun _ _ _ k => e_goto dX10_foldBy_59 (tgt := 2) rfl k) ?_
      exact ih x14 R13
set_option maxRecDepth 20000 in
set_option maxHeartbeats 4000000 in
theorem lc_X10_foldBy_234 {l : Launch} {g : xG} {d : Nat} {A : xA} {a : Nat} (h_a : sh 10 A a) (p1 : Int) (p2 : Int) (p3 : Int) (p4 : Int) (p11 : Int) (p12 : Int) {X : Int → xN → Option (xN)} (hX : ∀ (y13 : Int) (R : xN), Ev l g (d + 1) mX10_foldBy 314 [xR a, xI p1, xI p2, xI p3, xI p4, xU, xU, xU, xU, xU, xU, xU, xU, xU] [] A R (fun _ : xN => none) (fun v => v) (X y13 R)) (n : Nat) (y13 : Int) (R : xN) : Ev l g (d + 1) mX10_foldBy 234 [xR a, xI p1, xI p2, xI p3, xI p4, xU, xU, xU, xU, xU, xU, xI p11, xI p12, xI y13] [] A R (fun _ : xN => none) (fun v => v) (lp_X10_foldBy_234 a p1 p2 p3 p4 p11 p12 n y13 R X) := by
  induction n generalizing y13 R with
  | zero => exact ev_none
  | succ n ih =>
    rw [lp_X10_foldBy_234]
    refine ev_st (pc' := 240) (L' := [xR a, xI p1, xI p2, xI p3, xI p4, xU, xU, xU, xU, xU, xU, xI p11, xI p12, xI y13]) (st' := [xI (R a 9), xI y13]) (fun _ _ _ k => e_iload dX10_foldBy_234 (i := 13) (x := y13) rfl (e_aload_n dX10_foldBy_236 rfl (i := 0) (x := a) rfl (e_geti dX10_foldBy_237 flX10_78 (kd10_0 h_a) (Or.inl rfl) k))) ?_
    refine ev_br2 (P := (R a 9) ≤ y13) (pct := 314) (pcf := 243) (st' := []) (fun _ _ _ kt kf => e_cge dX10_foldBy_240 (tgt := 314) rfl kt kf) (fun h30 => ?_) (fun h30 => ?_)
    · refine ev_st (pc' := 314) (L' := [xR a, xI p1, xI p2, xI p3, xI p4, xU, xU, xU, xU, xU, xU, xU, xU, xU]) (st' := []) (fun _ _ _ k => e_fg [11, 12, 13] k) ?_
      exact hX y13 R
    · refine ev_st (pc' := 270) (L' := [xR a, xI p1, xI p2, xI p3, xI p4, xU, xU, xU, xU, xU, xU, xI p11, xI p12, xI y13]) (st' := [xI 3, xI p1, xI (w4 ((w4 ((w4 (p12 + (R a 9))) - 1)) - y13)), xI (w4 ((w4 ((w4 (2 * (R a 9))) * p4)) + y13)), xR a]) (fun _ _ _ k => e_aload_n dX10_foldBy_243 rfl (i := 0) (x := a) rfl (e_iconst dX10_foldBy_244 (k4 rfl) (e_aload_n dX10_foldBy_245 rfl (i := 0) (x := a) rfl (e_geti dX10_foldBy_246 flX10_78 (kd10_0 h_a) (Or.inl rfl) (e_imul dX10_foldBy_249 (e_iload dX10_foldBy_250 (i := 4) (x := p4) rfl (e_imul dX10_foldBy_252 (e_iload dX10_foldBy_253 (i := 13) (x := y13) rfl (e_iadd dX10_foldBy_255 (e_iload dX10_foldBy_256 (i := 12) (x := p12) rfl (e_aload_n dX10_foldBy_258 rfl (i := 0) (x := a) rfl (e_geti dX10_foldBy_259 flX10_78 (kd10_0 h_a) (Or.inl rfl) (e_iadd dX10_foldBy_262 (e_iconst dX10_foldBy_263 (k4 rfl) (e_isub dX10_foldBy_264 (e_iload dX10_foldBy_265 (i := 13) (x := y13) rfl (e_isub dX10_foldBy_267 (e_iload_n dX10_foldBy_268 rfl (i := 1) (x := p1) rfl (e_iconst dX10_foldBy_269 (k4 rfl) k))))))))))))))))))) ?_
      refine ev_tern (P := 3 ≤ p1) (a := 2) (b := 1) (pct := 277) (pcf := 273) (J := 278) (st' := [xI (w4 ((w4 ((w4 (p12 + (R a 9))) - 1)) - y13)), xI (w4 ((w4 ((w4 (2 * (R a 9))) * p4)) + y13)), xR a]) (fun _ _ _ kt kf => e_cge dX10_foldBy_270 (tgt := 277) rfl kt kf) (fun _ _ _ k => e_iconst dX10_foldBy_277 (k4 rfl) k) (fun _ _ _ k => e_iconst dX10_foldBy_273 (k4 rfl) (e_goto dX10_foldBy_274 (tgt := 278) rfl k)) (fun t31 et31 => ?_)
      refine ev_callV (As := [xI (w4 ((w4 ((w4 (2 * (R a 9))) * p4)) + y13)), xI (w4 ((w4 ((w4 (p12 + (R a 9))) - 1)) - y13)), xI t31]) (st := []) (fun v32 => []) dX10_foldBy_278 mlX10_81 (kd10_0 h_a) rfl rfl rfl rfl rfl rfl (c_X10_takeLayer (d := d) h_a (w4 ((w4 ((w4 (2 * (R a 9))) * p4)) + y13)) (w4 ((w4 ((w4 (p12 + (R a 9))) - 1)) - y13)) t31) (fun _ => trivial) (fun _ => rfl) (fun v32 => ?_)
      refine ev_st (pc' := 305) (L' := [xR a, xI p1, xI p2, xI p3, xI p4, xU, xU, xU, xU, xU, xU, xI p11, xI p12, xI y13]) (st' := [xI 0, xI (w4 (p11 + y13)), xI (w4 ((w4 ((w4 ((w4 (2 * (v32 a 9))) * p4)) + (v32 a 9))) + y13)), xR a]) (fun _ _ _ k => e_aload_n dX10_foldBy_281 rfl (i := 0) (x := a) rfl (e_iconst dX10_foldBy_282 (k4 rfl) (e_aload_n dX10_foldBy_283 rfl (i := 0) (x := a) rfl (e_geti dX10_foldBy_284 flX10_78 (kd10_0 h_a) (Or.inl rfl) (e_imul dX10_foldBy_287 (e_iload dX10_foldBy_288 (i := 4) (x := p4) rfl (e_imul dX10_foldBy_290 (e_aload_n dX10_foldBy_291 rfl (i := 0) (x := a) rfl (e_geti dX10_foldBy_292 flX10_78 (kd10_0 h_a) (Or.inl rfl) (e_iadd dX10_foldBy_295 (e_iload dX10_foldBy_296 (i := 13) (x := y13) rfl (e_iadd dX10_foldBy_298 (e_iload dX10_foldBy_299 (i := 11) (x := p11) rfl (e_iload dX10_foldBy_301 (i := 13) (x := y13) rfl (e_iadd dX10_foldBy_303 (e_iconst dX10_foldBy_304 (k4 rfl) k)))))))))))))))) ?_
      refine ev_callV (As := [xI (w4 ((w4 ((w4 ((w4 (2 * (v32 a 9))) * p4)) + (v32 a 9))) + y13)), xI (w4 (p11 + y13)), xI 0]) (st := []) (fun v33 => []) dX10_foldBy_305 mlX10_81 (kd10_0 h_a) rfl rfl rfl rfl rfl rfl (c_X10_takeLayer (d := d) h_a (w4 ((w4 ((w4 ((w4 (2 * (v32 a 9))) * p4)) + (v32 a 9))) + y13)) (w4 (p11 + y13)) 0) (fun _ => trivial) (fun _ => rfl) (fun v33 => ?_)
      refine ev_letx (fun x34 ex34 => ?_)
      refine ev_st (pc' := 311) (L' := [xR a, xI p1, xI p2, xI p3, xI p4, xU, xU, xU, xU, xU, xU, xI p11, xI p12, xI x34]) (st' := []) (fun _ _ _ k => e_iinc dX10_foldBy_308 (i := 13) rfl (x := y13) rfl (y := x34) ex34 (L' := [xR a, xI p1, xI p2, xI p3, xI p4, xU, xU, xU, xU, xU, xU, xI p11, xI p12, xI x34]) rfl k) ?_
      refine ev_st (pc' := 234) (L' := [xR a, xI p1, xI p2, xI p3, xI p4, xU, xU, xU, xU, xU, xU, xI p11, xI p12, xI x34]) (st' := []) (fun _ _ _ k => e_goto dX10_foldBy_311 (tgt := 234) rfl k) ?_
      exact ih x34 v33
set_option maxRecDepth 20000 in
set_option maxHeartbeats 4000000 in
theorem lc_X10_foldBy_103 {l : Launch} {g : xG} {d : Nat} {A : xA} {a : Nat} (h_a : sh 10 A a) (p1 : Int) (p2 : Int) (p3 : Int) {X : Int → xN → Option (xN)} (hX : ∀ (y4 : Int) (R : xN), Ev l g (d + 1) mX10_foldBy 320 [xR a, xU, xI p2, xI p3, xU, xU, xU, xU, xU, xU, xU, xU, xU, xU] [] A R (fun _ : xN => none) (fun v => v) (X y4 R)) (n : Nat) (y4 : Int) (R : xN) : Ev l g (d + 1) mX10_foldBy 103 [xR a, xI p1, xI p2, xI p3, xI y4, xU, xU, xU, xU, xU, xU, xU, xU, xU] [] A R (fun _ : xN => none) (fun v => v) (lp_X10_foldBy_103 a p1 p2 p3 n y4 R X) := by
  induction n generalizing y4 R with
  | zero => exact ev_none
  | succ n ih =>
    rw [lp_X10_foldBy_103]
    refine ev_st (pc' := 108) (L' := [xR a, xI p1, xI p2, xI p3, xI y4, xU, xU, xU, xU, xU, xU, xU, xU, xU]) (st' := [xI (w4 (p2 * p3)), xI y4]) (fun _ _ _ k => e_iload dX10_foldBy_103 (i := 4) (x := y4) rfl (e_iload_n dX10_foldBy_105 rfl (i := 2) (x := p2) rfl (e_iload_n dX10_foldBy_106 rfl (i := 3) (x := p3) rfl (e_imul dX10_foldBy_107 k)))) ?_
    refine ev_br2 (P := (w4 (p2 * p3)) ≤ y4) (pct := 320) (pcf := 111) (st' := []) (fun _ _ _ kt kf => e_cge dX10_foldBy_108 (tgt := 320) rfl kt kf) (fun h19 => ?_) (fun h19 => ?_)
    · refine ev_st (pc' := 320) (L' := [xR a, xU, xI p2, xI p3, xU, xU, xU, xU, xU, xU, xU, xU, xU, xU]) (st' := []) (fun _ _ _ k => e_fg [1, 4] k) ?_
      exact hX y4 R
    · refine ev_st (pc' := 114) (L' := [xR a, xI p1, xI p2, xI p3, xI y4, xU, xU, xU, xU, xU, xU, xU, xU, xU]) (st' := [xI p3, xI y4]) (fun _ _ _ k => e_iload dX10_foldBy_111 (i := 4) (x := y4) rfl (e_iload_n dX10_foldBy_113 rfl (i := 3) (x := p3) rfl k)) ?_
      refine ev_chk (fun h20 => ?_)
      refine ev_st (pc' := 115) (L' := [xR a, xI p1, xI p2, xI p3, xI y4, xU, xU, xU, xU, xU, xU, xU, xU, xU]) (st' := [xI (w4 (Int.tdiv y4 p3))]) (fun _ _ _ k => e_idiv dX10_foldBy_114 h20 k) ?_
      refine ev_leti (fun x21 ex21 => ?_)
      refine ev_st (pc' := 117) (L' := [xR a, xI p1, xI p2, xI p3, xI y4, xI x21, xU, xU, xU, xU, xU, xU, xU, xU]) (st' := []) (fun _ _ _ k => e_istore dX10_foldBy_115 (i := 5) rfl (L' := [xR a, xI p1, xI p2, xI p3, xI y4, xI x21, xU, xU, xU, xU, xU, xU, xU, xU]) rfl k) ?_
      refine ev_st (pc' := 120) (L' := [xR a, xI p1, xI p2, xI p3, xI y4, xI x21, xU, xU, xU, xU, xU, xU, xU, xU]) (st' := [xI p3, xI y4]) (fun _ _ _ k => e_iload dX10_foldBy_117 (i := 4) (x := y4) rfl (e_iload_n dX10_foldBy_119 rfl (i := 3) (x := p3) rfl k)) ?_
      refine ev_chk (fun h22 => ?_)
      refine ev_st (pc' := 121) (L' := [xR a, xI p1, xI p2, xI p3, xI y4, xI x21, xU, xU, xU, xU, xU, xU, xU, xU]) (st' := [xI (Int.tmod y4 p3)]) (fun _ _ _ k => e_irem dX10_foldBy_120 h22 k) ?_
      refine ev_leti (fun x23 ex23 => ?_)
      refine ev_st (pc' := 123) (L' := [xR a, xI p1, xI p2, xI p3, xI y4, xI x21, xI x23, xU, xU, xU, xU, xU, xU, xU]) (st' := []) (fun _ _ _ k => e_istore dX10_foldBy_121 (i := 6) rfl (L' := [xR a, xI p1, xI p2, xI p3, xI y4, xI x21, xI x23, xU, xU, xU, xU, xU, xU, xU]) rfl k) ?_
      refine ev_st (pc' := 125) (L' := [xR a, xI p1, xI p2, xI p3, xI y4, xI x21, xI x23, xU, xU, xU, xU, xU, xU, xU]) (st' := [xI 3, xI p1]) (fun _ _ _ k => e_iload_n dX10_foldBy_123 rfl (i := 1) (x := p1) rfl (e_iconst dX10_foldBy_124 (k4 rfl) k)) ?_
      refine ev_tern (P := p1 = 3) (a := (w4 (x21 + p2))) (b := x21) (pct := 128) (pcf := 135) (J := 137) (st' := []) (fun _ _ _ kt kf => e_cne dX10_foldBy_125 (tgt := 135) rfl kt kf) (fun _ _ _ k => e_iload dX10_foldBy_128 (i := 5) (x := x21) rfl (e_iload_n dX10_foldBy_130 rfl (i := 2) (x := p2) rfl (e_iadd dX10_foldBy_131 (e_goto dX10_foldBy_132 (tgt := 137) rfl k)))) (fun _ _ _ k => e_iload dX10_foldBy_135 (i := 5) (x := x21) rfl k) (fun t24 et24 => ?_)
      refine ev_st (pc' := 141) (L' := [xR a, xI p1, xI p2, xI p3, xI y4, xI x21, xI x23, xI t24, xU, xU, xU, xU, xU, xU]) (st' := [xI 1, xI p1]) (fun _ _ _ k => e_istore dX10_foldBy_137 (i := 7) rfl (L' := [xR a, xI p1, xI p2, xI p3, xI y4, xI x21, xI x23, xI t24, xU, xU, xU, xU, xU, xU]) rfl (e_iload_n dX10_foldBy_139 rfl (i := 1) (x := p1) rfl (e_iconst dX10_foldBy_140 (k4 rfl) k))) ?_
      refine ev_tern (P := p1 = 1) (a := (w4 (x23 + p3))) (b := x23) (pct := 144) (pcf := 151) (J := 153) (st' := []) (fun _ _ _ kt kf => e_cne dX10_foldBy_141 (tgt := 151) rfl kt kf) (fun _ _ _ k => e_iload dX10_foldBy_144 (i := 6) (x := x23) rfl (e_iload_n dX10_foldBy_146 rfl (i := 3) (x := p3) rfl (e_iadd dX10_foldBy_147 (e_goto dX10_foldBy_148 (tgt := 153) rfl k)))) (fun _ _ _ k => e_iload dX10_foldBy_151 (i := 6) (x := x23) rfl k) (fun t25 et25 => ?_)
      refine ev_st (pc' := 157) (L' := [xR a, xI p1, xI p2, xI p3, xI y4, xI x21, xI x23, xI t24, xI t25, xU, xU, xU, xU, xU]) (st' := [xI 3, xI p1]) (fun _ _ _ k => e_istore dX10_foldBy_153 (i := 8) rfl (L' := [xR a, xI p1, xI p2, xI p3, xI y4, xI x21, xI x23, xI t24, xI t25, xU, xU, xU, xU, xU]) rfl (e_iload_n dX10_foldBy_155 rfl (i := 1) (x := p1) rfl (e_iconst dX10_foldBy_156 (k4 rfl) k))) ?_
      refine ev_tern (P := 3 ≤ p1) (a := (w4 ((w4 ((R a 7) - 1)) - t24))) (b := x21) (pct := 165) (pcf := 160) (J := 174) (st' := []) (fun _ _ _ kt kf => e_cge dX10_foldBy_157 (tgt := 165) rfl kt kf) (fun _ _ _ k => e_aload_n dX10_foldBy_165 rfl (i := 0) (x := a) rfl (e_geti dX10_foldBy_166 flX10_72 (kd10_0 h_a) (Or.inl rfl) (e_iconst dX10_foldBy_169 (k4 rfl) (e_isub dX10_foldBy_170 (e_iload dX10_foldBy_171 (i := 7) (x := t24) rfl (e_isub dX10_foldBy_173 k)))))) (fun _ _ _ k => e_iload dX10_foldBy_160 (i := 5) (x := x21) rfl (e_goto dX10_foldBy_162 (tgt := 174) rfl k)) (fun t26 et26 => ?_)
      refine ev_st (pc' := 178) (L' := [xR a, xI p1, xI p2, xI p3, xI y4, xI x21, xI x23, xI t24, xI t25, xI t26, xU, xU, xU, xU]) (st' := [xI 3, xI p1]) (fun _ _ _ k => e_istore dX10_foldBy_174 (i := 9) rfl (L' := [xR a, xI p1, xI p2, xI p3, xI y4, xI x21, xI x23, xI t24, xI t25, xI t26, xU, xU, xU, xU]) rfl (e_iload_n dX10_foldBy_176 rfl (i := 1) (x := p1) rfl (e_iconst dX10_foldBy_177 (k4 rfl) k))) ?_
      refine ev_tern (P := 3 ≤ p1) (a := x23) (b := (w4 ((w4 ((R a 8) - 1)) - t25))) (pct := 193) (pcf := 181) (J := 195) (st' := []) (fun _ _ _ kt kf => e_cge dX10_foldBy_178 (tgt := 193) rfl kt kf) (fun _ _ _ k => e_iload dX10_foldBy_193 (i := 6) (x := x23) rfl k) (fun _ _ _ k => e_aload_n dX10_foldBy_181 rfl (i := 0) (x := a) rfl (e_geti dX10_foldBy_182 flX10_75 (kd10_0 h_a) (Or.inl rfl) (e_iconst dX10_foldBy_185 (k4 rfl) (e_isub dX10_foldBy_186 (e_iload dX10_foldBy_187 (i := 8) (x := t25) rfl (e_isub dX10_foldBy_189 (e_goto dX10_foldBy_190 (tgt := 195) rfl k))))))) (fun t27 et27 => ?_)
      refine ev_st (pc' := 212) (L' := [xR a, xI p1, xI p2, xI p3, xI y4, xI x21, xI x23, xI t24, xI t25, xI t26, xI t27, xU, xU, xU]) (st' := [xI (w4 ((R a 9) * (w4 ((w4 ((R a 8) * t24)) + t25))))]) (fun _ _ _ k => e_istore dX10_foldBy_195 (i := 10) rfl (L' := [xR a, xI p1, xI p2, xI p3, xI y4, xI x21, xI x23, xI t24, xI t25, xI t26, xI t27, xU, xU, xU]) rfl (e_aload_n dX10_foldBy_197 rfl (i := 0) (x := a) rfl (e_geti dX10_foldBy_198 flX10_78 (kd10_0 h_a) (Or.inl rfl) (e_aload_n dX10_foldBy_201 rfl (i := 0) (x := a) rfl (e_geti dX10_foldBy_202 flX10_75 (kd10_0 h_a) (Or.inl rfl) (e_iload dX10_foldBy_205 (i := 7) (x := t24) rfl (e_imul dX10_foldBy_207 (e_iload dX10_foldBy_208 (i := 8) (x := t25) rfl (e_iadd dX10_foldBy_210 (e_imul dX10_foldBy_211 k)))))))))) ?_
      refine ev_leti (fun x28 ex28 => ?_)
      refine ev_st (pc' := 214) (L' := [xR a, xI p1, xI p2, xI p3, xI y4, xI x21, xI x23, xI t24, xI t25, xI t26, xI t27, xI x28, xU, xU]) (st' := []) (fun _ _ _ k => e_istore dX10_foldBy_212 (i := 11) rfl (L' := [xR a, xI p1, xI p2, xI p3, xI y4, xI x21, xI x23, xI t24, xI t25, xI t26, xI t27, xI x28, xU, xU]) rfl k) ?_
      refine ev_st (pc' := 229) (L' := [xR a, xI p1, xI p2, xI p3, xI y4, xI x21, xI x23, xI t24, xI t25, xI t26, xI t27, xI x28, xU, xU]) (st' := [xI (w4 ((R a 9) * (w4 ((w4 ((R a 8) * t26)) + t27))))]) (fun _ _ _ k => e_aload_n dX10_foldBy_214 rfl (i := 0) (x := a) rfl (e_geti dX10_foldBy_215 flX10_78 (kd10_0 h_a) (Or.inl rfl) (e_aload_n dX10_foldBy_218 rfl (i := 0) (x := a) rfl (e_geti dX10_foldBy_219 flX10_75 (kd10_0 h_a) (Or.inl rfl) (e_iload dX10_foldBy_222 (i := 9) (x := t26) rfl (e_imul dX10_foldBy_224 (e_iload dX10_foldBy_225 (i := 10) (x := t27) rfl (e_iadd dX10_foldBy_227 (e_imul dX10_foldBy_228 k))))))))) ?_
      refine ev_leti (fun x29 ex29 => ?_)
      refine ev_st (pc' := 231) (L' := [xR a, xI p1, xI p2, xI p3, xI y4, xI x21, xI x23, xI t24, xI t25, xI t26, xI t27, xI x28, xI x29, xU]) (st' := []) (fun _ _ _ k => e_istore dX10_foldBy_229 (i := 12) rfl (L' := [xR a, xI p1, xI p2, xI p3, xI y4, xI x21, xI x23, xI t24, xI t25, xI t26, xI t27, xI x28, xI x29, xU]) rfl k) ?_
      refine ev_st (pc' := 234) (L' := [xR a, xI p1, xI p2, xI p3, xI y4, xU, xU, xU, xU, xU, xU, xI x28, xI x29, xI 0]) (st' := []) (fun _ _ _ k => e_iconst dX10_foldBy_231 (k4 rfl) (e_istore dX10_foldBy_232 (i := 13) rfl (L' := [xR a, xI p1, xI p2, xI p3, xI y4, xI x21, xI x23, xI t24, xI t25, xI t26, xI t27, xI x28, xI x29, xI 0]) rfl (e_fg [5, 6, 7, 8, 9, 10] k))) ?_
      refine lc_X10_foldBy_234 h_a p1 p2 p3 y4 x28 x29 (fun z35 R36 => ?_) 6000 0 R
      refine ev_letx (fun x37 ex37 => ?_)
      refine ev_st (pc' := 317) (L' := [xR a, xI p1, xI p2, xI p3, xI x37, xU, xU, xU, xU, xU, xU, xU, xU, xU]) (st' := []) (fun _ _ _ k => e_iinc dX10_foldBy_314 (i := 4) rfl (x := y4) rfl (y := x37) ex37 (L' := [xR a, xI p1, xI p2, xI p3, xI x37, xU, xU, xU, xU, xU, xU, xU, xU, xU]) rfl k) ?_
      refine ev_st (pc' := 103) (L' := [xR a, xI p1, xI p2, xI p3, xI x37, xU, xU, xU, xU, xU, xU, xU, xU, xU]) (st' := []) (fun _ _ _ k => e_goto dX10_foldBy_317 (tgt := 103) rfl k) ?_
      exact ih x37 R36
set_option maxRecDepth 20000 in
set_option maxHeartbeats 4000000 in
theorem c_X10_foldBy {l : Launch} {g : xG} {d : Nat} {A : xA} {R : xN} {a : Nat} (h_a : sh 10 A a) (i0 : Int) : Ev l g (d + 1) mX10_foldBy 0 [xR a, xI i0, xU, xU, xU, xU, xU, xU, xU, xU, xU, xU, xU, xU] [] A R (fun _ : xN => none) (fun v => v) (f_X10_foldBy a i0 R) := by
  rw [f_X10_foldBy]
  refine ev_st (pc' := 2) (L' := [xR a, xI i0, xI 0, xU, xU, xU, xU, xU, xU, xU, xU, xU, xU, xU]) (st' := []) (fun _ _ _ k => e_iconst dX10_foldBy_0 (k4 rfl) (e_istore_n dX10_foldBy_1 rfl (i := 2) rfl (L' := [xR a, xI i0, xI 0, xU, xU, xU, xU, xU, xU, xU, xU, xU, xU, xU]) rfl k)) ?_
  refine lc_X10_foldBy_2 h_a i0 (fun z15 R16 => ?_) 6000 0 R
  refine ev_st (pc' := 64) (L' := [xR a, xI i0, xU, xU, xU, xU, xU, xU, xU, xU, xU, xU, xU, xU]) (st' := [xI 3, xI i0]) (fun _ _ _ k => e_iload_n dX10_foldBy_62 rfl (i := 1) (x := i0) rfl (e_iconst dX10_foldBy_63 (k4 rfl) k)) ?_
  refine ev_tern (P := 3 ≤ i0) (a := (w4 (Int.tdiv (R16 a 7) 2))) (b := (R16 a 7)) (pct := 74) (pcf := 67) (J := 80) (st' := []) (fun _ _ _ kt kf => e_cge dX10_foldBy_64 (tgt := 74) rfl kt kf) (fun _ _ _ k => e_aload_n dX10_foldBy_74 rfl (i := 0) (x := a) rfl (e_geti dX10_foldBy_75 flX10_72 (kd10_0 h_a) (Or.inl rfl) (e_iconst dX10_foldBy_78 (k4 rfl) (e_idiv dX10_foldBy_79 (by decide) k)))) (fun _ _ _ k => e_aload_n dX10_foldBy_67 rfl (i := 0) (x := a) rfl (e_geti dX10_foldBy_68 flX10_72 (kd10_0 h_a) (Or.inl rfl) (e_goto dX10_foldBy_71 (tgt := 80) rfl k))) (fun t17 et17 => ?_)
  refine ev_st (pc' := 83) (L' := [xR a, xI i0, xI t17, xU, xU, xU, xU, xU, xU, xU, xU, xU, xU, xU]) (st' := [xI 3, xI i0]) (fun _ _ _ k => e_istore_n dX10_foldBy_80 rfl (i := 2) rfl (L' := [xR a, xI i0, xI t17, xU, xU, xU, xU, xU, xU, xU, xU, xU, xU, xU]) rfl (e_iload_n dX10_foldBy_81 rfl (i := 1) (x := i0) rfl (e_iconst dX10_foldBy_82 (k4 rfl) k))) ?_
  refine ev_tern (P := 3 ≤ i0) (a := (R16 a 8)) (b := (w4 (Int.tdiv (R16 a 8) 2))) (pct := 95) (pcf := 86) (J := 99) (st' := []) (fun _ _ _ kt kf => e_cge dX10_foldBy_83 (tgt := 95) rfl kt kf) (fun _ _ _ k => e_aload_n dX10_foldBy_95 rfl (i := 0) (x := a) rfl (e_geti dX10_foldBy_96 flX10_75 (kd10_0 h_a) (Or.inl rfl) k)) (fun _ _ _ k => e_aload_n dX10_foldBy_86 rfl (i := 0) (x := a) rfl (e_geti dX10_foldBy_87 flX10_75 (kd10_0 h_a) (Or.inl rfl) (e_iconst dX10_foldBy_90 (k4 rfl) (e_idiv dX10_foldBy_91 (by decide) (e_goto dX10_foldBy_92 (tgt := 99) rfl k))))) (fun t18 et18 => ?_)
  refine ev_st (pc' := 103) (L' := [xR a, xI i0, xI t17, xI t18, xI 0, xU, xU, xU, xU, xU, xU, xU, xU, xU]) (st' := []) (fun _ _ _ k => e_istore_n dX10_foldBy_99 rfl (i := 3) rfl (L' := [xR a, xI i0, xI t17, xI t18, xU, xU, xU, xU, xU, xU, xU, xU, xU, xU]) rfl (e_iconst dX10_foldBy_100 (k4 rfl) (e_istore dX10_foldBy_101 (i := 4) rfl (L' := [xR a, xI i0, xI t17, xI t18, xI 0, xU, xU, xU, xU, xU, xU, xU, xU, xU]) rfl k))) ?_
  refine lc_X10_foldBy_103 h_a i0 t17 t18 (fun z38 R39 => ?_) 6000 0 R16
  refine ev_st (pc' := 325) (L' := [xR a, xU, xI t17, xI t18, xU, xU, xU, xU, xU, xU, xU, xU, xU, xU]) (st' := []) (fun _ _ _ k => e_aload_n dX10_foldBy_320 rfl (i := 0) (x := a) rfl (e_iload_n dX10_foldBy_321 rfl (i := 2) (x := t17) rfl (e_puti dX10_foldBy_322 flX10_72 (kd10_0 h_a) (Or.inl rfl) rfl k))) ?_
  refine ev_letR (fun R40 eR40 => ?_)
  refine ev_st (pc' := 330) (L' := [xR a, xU, xI t17, xI t18, xU, xU, xU, xU, xU, xU, xU, xU, xU, xU]) (st' := []) (fun _ _ _ k => e_aload_n dX10_foldBy_325 rfl (i := 0) (x := a) rfl (e_iload_n dX10_foldBy_326 rfl (i := 3) (x := t18) rfl (e_puti dX10_foldBy_327 flX10_75 (kd10_0 h_a) (Or.inl rfl) rfl k))) ?_
  refine ev_letR (fun R41 eR41 => ?_)
  refine ev_st (pc' := 340) (L' := [xR a, xU, xI t17, xI t18, xU, xU, xU, xU, xU, xU, xU, xU, xU, xU]) (st' := []) (fun _ _ _ k => e_aload_n dX10_foldBy_330 rfl (i := 0) (x := a) rfl (e_iconst dX10_foldBy_331 (k4 rfl) (e_aload_n dX10_foldBy_332 rfl (i := 0) (x := a) rfl (e_geti dX10_foldBy_333 flX10_78 (kd10_0 h_a) (Or.inl rfl) (e_imul dX10_foldBy_336 (e_puti dX10_foldBy_337 flX10_78 (kd10_0 h_a) (Or.inl rfl) rfl k)))))) ?_
  refine ev_letR (fun R42 eR42 => ?_)
  exact ev_ret (e_vret dX10_foldBy_340)
def lp_X10_layNow_6 (a : Nat) : Nat → Int → xN → (Int → xN → Option (xN)) → Option (xN)
  | 0, _, _, _ => none
  | n + 1, y1, R, X =>
    if (R (a + 1) 2) ≤ y1 then
    X y1 R
    else
    if 0 ≤ (w4 (3 + y1)) ∧ (w4 (3 + y1)) < 464 then
    (f_X10_foldBy a (R (a + 1) ((w4 (3 + y1))).toNat) R).bind (fun v4 =>
    xlet (w4 (y1 + 1)) (fun x5 =>
    lp_X10_layNow_6 a n x5 v4 X))
    else none
def f_X10_layNow (a : Nat) (R : xN) : Option (xN) :=
  (f_X10_layOpen a R).bind (fun v1 =>
  lp_X10_layNow_6 a 6000 0 v1 (fun z6 R7 =>
  some R7))
set_option maxRecDepth 20000 in
set_option maxHeartbeats 4000000 in
theorem lc_X10_layNow_6 {l : Launch} {g : xG} {d : Nat} {A : xA} {a : Nat} (h_a : sh 10 A a)  {X : Int → xN → Option (xN)} (hX : ∀ (y1 : Int) (R : xN), Ev l g (d + 2) mX10_layNow 34 [xU, xU] [] A R (fun _ : xN => none) (fun v => v) (X y1 R)) (n : Nat) (y1 : Int) (R : xN) : Ev l g (d + 2) mX10_layNow 6 [xR a, xI y1] [] A R (fun _ : xN => none) (fun v => v) (lp_X10_layNow_6 a n y1 R X) := by
  induction n generalizing y1 R with
  | zero => exact ev_none
  | succ n ih =>
    rw [lp_X10_layNow_6]
    refine ev_st (pc' := 13) (L' := [xR a, xI y1]) (st' := [xI (R (a + 1) 2), xI y1]) (fun _ _ _ k => e_iload_n dX10_layNow_6 rfl (i := 1) (x := y1) rfl (e_aload_n dX10_layNow_7 rfl (i := 0) (x := a) rfl (e_getr dX10_layNow_8 flX10_7 (kd10_0 h_a) rfl (rf10_0_0 h_a) (e_iconst dX10_layNow_11 (k4 rfl) (e_iald dX10_layNow_12 (kd10_1 h_a) (by decide) (by decide) k))))) ?_
    refine ev_br2 (P := (R (a + 1) 2) ≤ y1) (pct := 34) (pcf := 16) (st' := []) (fun _ _ _ kt kf => e_cge dX10_layNow_13 (tgt := 34) rfl kt kf) (fun h2 => ?_) (fun h2 => ?_)
    · refine ev_st (pc' := 34) (L' := [xU, xU]) (st' := []) (fun _ _ _ k => e_fg [0, 1] k) ?_
      exact hX y1 R
    · refine ev_st (pc' := 24) (L' := [xR a, xI y1]) (st' := [xI (w4 (3 + y1)), xR (a + 1), xR a]) (fun _ _ _ k => e_aload_n dX10_layNow_16 rfl (i := 0) (x := a) rfl (e_aload_n dX10_layNow_17 rfl (i := 0) (x := a) rfl (e_getr dX10_layNow_18 flX10_7 (kd10_0 h_a) rfl (rf10_0_0 h_a) (e_iconst dX10_layNow_21 (k4 rfl) (e_iload_n dX10_layNow_22 rfl (i := 1) (x := y1) rfl (e_iadd dX10_layNow_23 k)))))) ?_
      refine ev_chk (fun h3 => ?_)
      refine ev_st (pc' := 25) (L' := [xR a, xI y1]) (st' := [xI (R (a + 1) ((w4 (3 + y1))).toNat), xR a]) (fun _ _ _ k => e_iald dX10_layNow_24 (kd10_1 h_a) h3.1 h3.2 k) ?_
      refine ev_callV (As := [xI (R (a + 1) ((w4 (3 + y1))).toNat)]) (st := []) (fun v4 => []) dX10_layNow_25 mlX10_88 (kd10_0 h_a) rfl rfl rfl rfl rfl rfl (c_X10_foldBy (d := d) h_a (R (a + 1) ((w4 (3 + y1))).toNat)) (fun _ => trivial) (fun _ => rfl) (fun v4 => ?_)
      refine ev_letx (fun x5 ex5 => ?_)
      refine ev_st (pc' := 31) (L' := [xR a, xI x5]) (st' := []) (fun _ _ _ k => e_iinc dX10_layNow_28 (i := 1) rfl (x := y1) rfl (y := x5) ex5 (L' := [xR a, xI x5]) rfl k) ?_
      refine ev_st (pc' := 6) (L' := [xR a, xI x5]) (st' := []) (fun _ _ _ k => e_goto dX10_layNow_31 (tgt := 6) rfl k) ?_
      exact ih x5 v4
set_option maxRecDepth 20000 in
set_option maxHeartbeats 4000000 in
theorem c_X10_layNow {l : Launch} {g : xG} {d : Nat} {A : xA} {R : xN} {a : Nat} (h_a : sh 10 A a)  : Ev l g (d + 2) mX10_layNow 0 [xR a, xU] [] A R (fun _ : xN => none) (fun v => v) (f_X10_layNow a R) := by
  rw [f_X10_layNow]
  refine ev_st (pc' := 1) (L' := [xR a, xU]) (st' := [xR a]) (fun _ _ _ k => e_aload_n dX10_layNow_0 rfl (i := 0) (x := a) rfl k) ?_
  refine ev_callV (As := []) (st := []) (fun v1 => []) dX10_layNow_1 mlX10_85 (kd10_0 h_a) rfl rfl rfl rfl rfl rfl (c_X10_layOpen (d := d + 1) h_a) (fun _ => trivial) (fun _ => rfl) (fun v1 => ?_)
  refine ev_st (pc' := 6) (L' := [xR a, xI 0]) (st' := []) (fun _ _ _ k => e_iconst dX10_layNow_4 (k4 rfl) (e_istore_n dX10_layNow_5 rfl (i := 1) rfl (L' := [xR a, xI 0]) rfl k)) ?_
  refine lc_X10_layNow_6 h_a (fun z6 R7 => ?_) 6000 0 v1
  exact ev_ret (e_vret dX10_layNow_34)
def f_X10_isBooklet (a : Nat) (R : xN) : Option (Bool × xN) :=
  (f_X10_layNow a R).bind (fun v1 =>
  (f_X10_cells a v1).bind (fun v2 =>
  if (v1 a 9) = v2 then
  some (true, v1)
  else
  some (false, v1)))
set_option maxRecDepth 20000 in
set_option maxHeartbeats 4000000 in
theorem c_X10_isBooklet {l : Launch} {g : xG} {d : Nat} {A : xA} {R : xN} {a : Nat} (h_a : sh 10 A a)  : Ev l g (d + 3) mX10_isBooklet 0 [xR a] [] A R (fun v : Bool × xN => some (xI (xz v.1))) (fun v => v.2) (f_X10_isBooklet a R) := by
  rw [f_X10_isBooklet]
  refine ev_st (pc' := 1) (L' := [xR a]) (st' := [xR a]) (fun _ _ _ k => e_aload_n dX10_isBooklet_0 rfl (i := 0) (x := a) rfl k) ?_
  refine ev_callV (As := []) (st := []) (fun v1 => []) dX10_isBooklet_1 mlX10_92 (kd10_0 h_a) rfl rfl rfl rfl rfl rfl (c_X10_layNow (d := d) h_a) (fun _ => trivial) (fun _ => rfl) (fun v1 => ?_)
  refine ev_st (pc' := 9) (L' := [xR a]) (st' := [xR a, xI (v1 a 9)]) (fun _ _ _ k => e_aload_n dX10_isBooklet_4 rfl (i := 0) (x := a) rfl (e_geti dX10_isBooklet_5 flX10_78 (kd10_0 h_a) (Or.inl rfl) (e_aload_n dX10_isBooklet_8 rfl (i := 0) (x := a) rfl k))) ?_
  refine ev_callV (As := []) (st := [xI (v1 a 9)]) (fun v2 => [xI v2, xI (v1 a 9)]) dX10_isBooklet_9 mlX10_95 (kd10_0 h_a) rfl rfl rfl rfl rfl rfl (c_X10_cells (d := d + 2) h_a) (fun _ => trivial) (fun _ => rfl) (fun v2 => ?_)
  refine ev_br2 (P := (v1 a 9) = v2) (pct := 15) (pcf := 19) (st' := []) (fun _ _ _ kt kf => e_cne dX10_isBooklet_12 (tgt := 19) rfl kt kf) (fun h3 => ?_) (fun h3 => ?_)
  · exact ev_ret (e_iconst dX10_isBooklet_15 (k4 rfl) (e_goto dX10_isBooklet_16 (tgt := 20) rfl (e_iret dX10_isBooklet_20)))
  · exact ev_ret (e_iconst dX10_isBooklet_19 (k4 rfl) (e_iret dX10_isBooklet_20))
def lp_X10_layBy_56 (a : Nat) (p1 : Int) : Nat → Int → xN → (Int → xN → Option (Bool × xN)) → Option (Bool × xN)
  | 0, _, _, _ => none
  | n + 1, y3, R, X =>
    if p1 ≤ 0 then
    X y3 R
    else
    if y3 ≤ 0 then
    X y3 R
    else
    if y3 ≠ 0 then
    xlet (Int.tmod (w4 (Int.tdiv p1 y3)) 10) (fun x10 =>
    (f_X10_in x10 1 4 R).bind (fun v11 =>
    if v11 = true then
    (f_X10_mayFold a x10 R).bind (fun v13 =>
    if v13 = true then
    (f_X10_foldBy a x10 R).bind (fun v15 =>
    xlet (w4 (Int.tdiv y3 10)) (fun x16 =>
    lp_X10_layBy_56 a p1 n x16 v15 X))
    else
    some (false, R))
    else
    some (false, R)))
    else none
def f_X10_layBy (a : Nat) (i0 : Int) (R : xN) : Option (Bool × xN) :=
  (f_X10_layOpen a R).bind (fun v1 =>
  if i0 < 0 then
  some (false, v1)
  else
  if i0 ≤ 9999 then
  if i0 ≤ 999 then
  if i0 ≤ 99 then
  xlet (if i0 ≤ 9 then 1 else 10) (fun t6 =>
  lp_X10_layBy_56 a i0 6000 t6 v1 (fun z17 R18 =>
  (f_X10_cells a R18).bind (fun v19 =>
  if (R18 a 9) = v19 then
  some (true, R18)
  else
  some (false, R18))))
  else
  lp_X10_layBy_56 a i0 6000 100 v1 (fun z21 R22 =>
  (f_X10_cells a R22).bind (fun v23 =>
  if (R22 a 9) = v23 then
  some (true, R22)
  else
  some (false, R22)))
  else
  lp_X10_layBy_56 a i0 6000 1000 v1 (fun z25 R26 =>
  (f_X10_cells a R26).bind (fun v27 =>
  if (R26 a 9) = v27 then
  some (true, R26)
  else
  some (false, R26)))
  else
  some (false, v1))
set_option maxRecDepth 20000 in
set_option maxHeartbeats 4000000 in
theorem lc_X10_layBy_56 {l : Launch} {g : xG} {d : Nat} {A : xA} {a : Nat} (h_a : sh 10 A a) (p1 : Int) {X : Int → xN → Option (Bool × xN)} (hX : ∀ (y3 : Int) (R : xN), Ev l g (d + 2) mX10_layBy 110 [xR a, xU, xU, xU, xU] [] A R (fun v : Bool × xN => some (xI (xz v.1))) (fun v => v.2) (X y3 R)) (n : Nat) (y3 : Int) (R : xN) : Ev l g (d + 2) mX10_layBy 56 [xR a, xI p1, xU, xI y3, xU] [] A R (fun v : Bool × xN => some (xI (xz v.1))) (fun v => v.2) (lp_X10_layBy_56 a p1 n y3 R X) := by
  induction n generalizing y3 R with
  | zero => exact ev_none
  | succ n ih =>
    rw [lp_X10_layBy_56]
    refine ev_st (pc' := 57) (L' := [xR a, xI p1, xU, xI y3, xU]) (st' := [xI p1]) (fun _ _ _ k => e_iload_n dX10_layBy_56 rfl (i := 1) (x := p1) rfl k) ?_
    refine ev_br2 (P := p1 ≤ 0) (pct := 110) (pcf := 60) (st' := []) (fun _ _ _ kt kf => e_ifle dX10_layBy_57 (tgt := 110) rfl kt kf) (fun h7 => ?_) (fun h7 => ?_)
    · refine ev_st (pc' := 110) (L' := [xR a, xU, xU, xU, xU]) (st' := []) (fun _ _ _ k => e_fg [1, 3] k) ?_
      exact hX y3 R
    · refine ev_st (pc' := 61) (L' := [xR a, xI p1, xU, xI y3, xU]) (st' := [xI y3]) (fun _ _ _ k => e_iload_n dX10_layBy_60 rfl (i := 3) (x := y3) rfl k) ?_
      refine ev_br2 (P := y3 ≤ 0) (pct := 110) (pcf := 64) (st' := []) (fun _ _ _ kt kf => e_ifle dX10_layBy_61 (tgt := 110) rfl kt kf) (fun h8 => ?_) (fun h8 => ?_)
      · refine ev_st (pc' := 110) (L' := [xR a, xU, xU, xU, xU]) (st' := []) (fun _ _ _ k => e_fg [1, 3] k) ?_
        exact hX y3 R
      · refine ev_st (pc' := 66) (L' := [xR a, xI p1, xU, xI y3, xU]) (st' := [xI y3, xI p1]) (fun _ _ _ k => e_iload_n dX10_layBy_64 rfl (i := 1) (x := p1) rfl (e_iload_n dX10_layBy_65 rfl (i := 3) (x := y3) rfl k)) ?_
        refine ev_chk (fun h9 => ?_)
        refine ev_st (pc' := 67) (L' := [xR a, xI p1, xU, xI y3, xU]) (st' := [xI (w4 (Int.tdiv p1 y3))]) (fun _ _ _ k => e_idiv dX10_layBy_66 h9 k) ?_
        refine ev_st (pc' := 70) (L' := [xR a, xI p1, xU, xI y3, xU]) (st' := [xI (Int.tmod (w4 (Int.tdiv p1 y3)) 10)]) (fun _ _ _ k => e_bipush dX10_layBy_67 rfl (k4 rfl) (e_irem dX10_layBy_69 (by decide) k)) ?_
        refine ev_leti (fun x10 ex10 => ?_)
        refine ev_st (pc' := 72) (L' := [xR a, xI p1, xU, xI y3, xI x10]) (st' := []) (fun _ _ _ k => e_istore dX10_layBy_70 (i := 4) rfl (L' := [xR a, xI p1, xU, xI y3, xI x10]) rfl k) ?_
        refine ev_st (pc' := 79) (L' := [xR a, xI p1, xU, xI y3, xI x10]) (st' := [xL 4, xL 1, xL x10]) (fun _ _ _ k => e_iload dX10_layBy_72 (i := 4) (x := x10) rfl (e_i2l dX10_layBy_74 (e_lconst dX10_layBy_75 (i := 1) rfl (k8 rfl) (e_ldc2 dX10_layBy_76 ckX10_99 (k8 rfl) k)))) ?_
        refine ev_callS (As := [xL x10, xL 1, xL 4]) (st := []) (fun v11 => [xI (xz v11)]) dX10_layBy_79 mlX10_101 rfl rfl rfl rfl rfl rfl (c_X10_in (d := d + 1) x10 1 4) (fun _ => xz01 _) (fun _ => rfl) (fun v11 => ?_)
        refine ev_br2 (P := v11 = true) (pct := 85) (pcf := 94) (st' := []) (fun _ _ _ kt kf => e_ifeqz dX10_layBy_82 (tgt := 94) rfl kt kf) (fun h12 => ?_) (fun h12 => ?_)
        · refine ev_st (pc' := 88) (L' := [xR a, xI p1, xU, xI y3, xI x10]) (st' := [xI x10, xR a]) (fun _ _ _ k => e_aload_n dX10_layBy_85 rfl (i := 0) (x := a) rfl (e_iload dX10_layBy_86 (i := 4) (x := x10) rfl k)) ?_
          refine ev_callV (As := [xI x10]) (st := []) (fun v13 => [xI (xz v13)]) dX10_layBy_88 mlX10_105 (kd10_0 h_a) rfl rfl rfl rfl rfl rfl (c_X10_mayFold (d := d + 1) h_a x10) (fun _ => xz01 _) (fun _ => rfl) (fun v13 => ?_)
          refine ev_br2 (P := v13 = true) (pct := 96) (pcf := 94) (st' := []) (fun _ _ _ kt kf => e_ifnez dX10_layBy_91 (tgt := 96) rfl kt kf) (fun h14 => ?_) (fun h14 => ?_)
          · refine ev_st (pc' := 99) (L' := [xR a, xI p1, xU, xI y3, xI x10]) (st' := [xI x10, xR a]) (fun _ _ _ k => e_aload_n dX10_layBy_96 rfl (i := 0) (x := a) rfl (e_iload dX10_layBy_97 (i := 4) (x := x10) rfl k)) ?_
            refine ev_callV (As := [xI x10]) (st := []) (fun v15 => []) dX10_layBy_99 mlX10_88 (kd10_0 h_a) rfl rfl rfl rfl rfl rfl (c_X10_foldBy (d := d) h_a x10) (fun _ => trivial) (fun _ => rfl) (fun v15 => ?_)
            refine ev_st (pc' := 106) (L' := [xR a, xI p1, xU, xI y3, xI x10]) (st' := [xI (w4 (Int.tdiv y3 10))]) (fun _ _ _ k => e_iload_n dX10_layBy_102 rfl (i := 3) (x := y3) rfl (e_bipush dX10_layBy_103 rfl (k4 rfl) (e_idiv dX10_layBy_105 (by decide) k))) ?_
            refine ev_leti (fun x16 ex16 => ?_)
            refine ev_st (pc' := 107) (L' := [xR a, xI p1, xU, xI x16, xI x10]) (st' := []) (fun _ _ _ k => e_istore_n dX10_layBy_106 rfl (i := 3) rfl (L' := [xR a, xI p1, xU, xI x16, xI x10]) rfl k) ?_
            refine ev_st (pc' := 56) (L' := [xR a, xI p1, xU, xI x16, xU]) (st' := []) (fun _ _ _ k => e_goto dX10_layBy_107 (tgt := 56) rfl (e_fg [4] k)) ?_
            exact ih x16 v15
          · exact ev_ret (e_iconst dX10_layBy_94 (k4 rfl) (e_iret dX10_layBy_95))
        · exact ev_ret (e_iconst dX10_layBy_94 (k4 rfl) (e_iret dX10_layBy_95))
set_option maxRecDepth 20000 in
set_option maxHeartbeats 4000000 in
theorem c_X10_layBy {l : Launch} {g : xG} {d : Nat} {A : xA} {R : xN} {a : Nat} (h_a : sh 10 A a) (i0 : Int) : Ev l g (d + 2) mX10_layBy 0 [xR a, xI i0, xU, xU, xU] [] A R (fun v : Bool × xN => some (xI (xz v.1))) (fun v => v.2) (f_X10_layBy a i0 R) := by
  rw [f_X10_layBy]
  refine ev_st (pc' := 1) (L' := [xR a, xI i0, xU, xU, xU]) (st' := [xR a]) (fun _ _ _ k => e_aload_n dX10_layBy_0 rfl (i := 0) (x := a) rfl k) ?_
  refine ev_callV (As := []) (st := []) (fun v1 => []) dX10_layBy_1 mlX10_85 (kd10_0 h_a) rfl rfl rfl rfl rfl rfl (c_X10_layOpen (d := d + 1) h_a) (fun _ => trivial) (fun _ => rfl) (fun v1 => ?_)
  refine ev_st (pc' := 5) (L' := [xR a, xI i0, xU, xU, xU]) (st' := [xI i0]) (fun _ _ _ k => e_iload_n dX10_layBy_4 rfl (i := 1) (x := i0) rfl k) ?_
  refine ev_br2 (P := i0 < 0) (pct := 15) (pcf := 8) (st' := []) (fun _ _ _ kt kf => e_iflt dX10_layBy_5 (tgt := 15) rfl kt kf) (fun h2 => ?_) (fun h2 => ?_)
  · exact ev_ret (e_iconst dX10_layBy_15 (k4 rfl) (e_iret dX10_layBy_16))
  · refine ev_st (pc' := 12) (L' := [xR a, xI i0, xU, xU, xU]) (st' := [xI 9999, xI i0]) (fun _ _ _ k => e_iload_n dX10_layBy_8 rfl (i := 1) (x := i0) rfl (e_sipush dX10_layBy_9 rfl (k4 rfl) k)) ?_
    refine ev_br2 (P := i0 ≤ 9999) (pct := 17) (pcf := 15) (st' := []) (fun _ _ _ kt kf => e_cle dX10_layBy_12 (tgt := 17) rfl kt kf) (fun h3 => ?_) (fun h3 => ?_)
    · refine ev_st (pc' := 21) (L' := [xR a, xI i0, xU, xU, xU]) (st' := [xI 999, xI i0]) (fun _ _ _ k => e_iload_n dX10_layBy_17 rfl (i := 1) (x := i0) rfl (e_sipush dX10_layBy_18 rfl (k4 rfl) k)) ?_
      refine ev_br2 (P := i0 ≤ 999) (pct := 30) (pcf := 24) (st' := []) (fun _ _ _ kt kf => e_cle dX10_layBy_21 (tgt := 30) rfl kt kf) (fun h4 => ?_) (fun h4 => ?_)
      · refine ev_st (pc' := 33) (L' := [xR a, xI i0, xU, xU, xU]) (st' := [xI 99, xI i0]) (fun _ _ _ k => e_iload_n dX10_layBy_30 rfl (i := 1) (x := i0) rfl (e_bipush dX10_layBy_31 rfl (k4 rfl) k)) ?_
        refine ev_br2 (P := i0 ≤ 99) (pct := 41) (pcf := 36) (st' := []) (fun _ _ _ kt kf => e_cle dX10_layBy_33 (tgt := 41) rfl kt kf) (fun h5 => ?_) (fun h5 => ?_)
        · refine ev_st (pc' := 44) (L' := [xR a, xI i0, xU, xU, xU]) (st' := [xI 9, xI i0]) (fun _ _ _ k => e_iload_n dX10_layBy_41 rfl (i := 1) (x := i0) rfl (e_bipush dX10_layBy_42 rfl (k4 rfl) k)) ?_
          refine ev_tern (P := i0 ≤ 9) (a := 1) (b := 10) (pct := 52) (pcf := 47) (J := 53) (st' := []) (fun _ _ _ kt kf => e_cle dX10_layBy_44 (tgt := 52) rfl kt kf) (fun _ _ _ k => e_iconst dX10_layBy_52 (k4 rfl) k) (fun _ _ _ k => e_bipush dX10_layBy_47 rfl (k4 rfl) (e_goto dX10_layBy_49 (tgt := 53) rfl k)) (fun t6 et6 => ?_)
          refine ev_st (pc' := 56) (L' := [xR a, xI i0, xU, xI t6, xU]) (st' := []) (fun _ _ _ k => e_istore_n dX10_layBy_53 rfl (i := 2) rfl (L' := [xR a, xI i0, xI t6, xU, xU]) rfl (e_iload_n dX10_layBy_54 rfl (i := 2) (x := t6) rfl (e_istore_n dX10_layBy_55 rfl (i := 3) rfl (L' := [xR a, xI i0, xI t6, xI t6, xU]) rfl (e_fg [2] k)))) ?_
          refine lc_X10_layBy_56 h_a i0 (fun z17 R18 => ?_) 6000 t6 v1
          refine ev_st (pc' := 115) (L' := [xR a, xU, xU, xU, xU]) (st' := [xR a, xI (R18 a 9)]) (fun _ _ _ k => e_aload_n dX10_layBy_110 rfl (i := 0) (x := a) rfl (e_geti dX10_layBy_111 flX10_78 (kd10_0 h_a) (Or.inl rfl) (e_aload_n dX10_layBy_114 rfl (i := 0) (x := a) rfl k))) ?_
          refine ev_callV (As := []) (st := [xI (R18 a 9)]) (fun v19 => [xI v19, xI (R18 a 9)]) dX10_layBy_115 mlX10_95 (kd10_0 h_a) rfl rfl rfl rfl rfl rfl (c_X10_cells (d := d + 1) h_a) (fun _ => trivial) (fun _ => rfl) (fun v19 => ?_)
          refine ev_br2 (P := (R18 a 9) = v19) (pct := 121) (pcf := 125) (st' := []) (fun _ _ _ kt kf => e_cne dX10_layBy_118 (tgt := 125) rfl kt kf) (fun h20 => ?_) (fun h20 => ?_)
          · exact ev_ret (e_iconst dX10_layBy_121 (k4 rfl) (e_goto dX10_layBy_122 (tgt := 126) rfl (e_iret dX10_layBy_126)))
          · exact ev_ret (e_iconst dX10_layBy_125 (k4 rfl) (e_iret dX10_layBy_126))
        · refine ev_st (pc' := 56) (L' := [xR a, xI i0, xU, xI 100, xU]) (st' := []) (fun _ _ _ k => e_bipush dX10_layBy_36 rfl (k4 rfl) (e_goto dX10_layBy_38 (tgt := 53) rfl (e_istore_n dX10_layBy_53 rfl (i := 2) rfl (L' := [xR a, xI i0, xI 100, xU, xU]) rfl (e_iload_n dX10_layBy_54 rfl (i := 2) (x := 100) rfl (e_istore_n dX10_layBy_55 rfl (i := 3) rfl (L' := [xR a, xI i0, xI 100, xI 100, xU]) rfl (e_fg [2] k)))))) ?_
          refine lc_X10_layBy_56 h_a i0 (fun z21 R22 => ?_) 6000 100 v1
          refine ev_st (pc' := 115) (L' := [xR a, xU, xU, xU, xU]) (st' := [xR a, xI (R22 a 9)]) (fun _ _ _ k => e_aload_n dX10_layBy_110 rfl (i := 0) (x := a) rfl (e_geti dX10_layBy_111 flX10_78 (kd10_0 h_a) (Or.inl rfl) (e_aload_n dX10_layBy_114 rfl (i := 0) (x := a) rfl k))) ?_
          refine ev_callV (As := []) (st := [xI (R22 a 9)]) (fun v23 => [xI v23, xI (R22 a 9)]) dX10_layBy_115 mlX10_95 (kd10_0 h_a) rfl rfl rfl rfl rfl rfl (c_X10_cells (d := d + 1) h_a) (fun _ => trivial) (fun _ => rfl) (fun v23 => ?_)
          refine ev_br2 (P := (R22 a 9) = v23) (pct := 121) (pcf := 125) (st' := []) (fun _ _ _ kt kf => e_cne dX10_layBy_118 (tgt := 125) rfl kt kf) (fun h24 => ?_) (fun h24 => ?_)
          · exact ev_ret (e_iconst dX10_layBy_121 (k4 rfl) (e_goto dX10_layBy_122 (tgt := 126) rfl (e_iret dX10_layBy_126)))
          · exact ev_ret (e_iconst dX10_layBy_125 (k4 rfl) (e_iret dX10_layBy_126))
      · refine ev_st (pc' := 56) (L' := [xR a, xI i0, xU, xI 1000, xU]) (st' := []) (fun _ _ _ k => e_sipush dX10_layBy_24 rfl (k4 rfl) (e_goto dX10_layBy_27 (tgt := 53) rfl (e_istore_n dX10_layBy_53 rfl (i := 2) rfl (L' := [xR a, xI i0, xI 1000, xU, xU]) rfl (e_iload_n dX10_layBy_54 rfl (i := 2) (x := 1000) rfl (e_istore_n dX10_layBy_55 rfl (i := 3) rfl (L' := [xR a, xI i0, xI 1000, xI 1000, xU]) rfl (e_fg [2] k)))))) ?_
        refine lc_X10_layBy_56 h_a i0 (fun z25 R26 => ?_) 6000 1000 v1
        refine ev_st (pc' := 115) (L' := [xR a, xU, xU, xU, xU]) (st' := [xR a, xI (R26 a 9)]) (fun _ _ _ k => e_aload_n dX10_layBy_110 rfl (i := 0) (x := a) rfl (e_geti dX10_layBy_111 flX10_78 (kd10_0 h_a) (Or.inl rfl) (e_aload_n dX10_layBy_114 rfl (i := 0) (x := a) rfl k))) ?_
        refine ev_callV (As := []) (st := [xI (R26 a 9)]) (fun v27 => [xI v27, xI (R26 a 9)]) dX10_layBy_115 mlX10_95 (kd10_0 h_a) rfl rfl rfl rfl rfl rfl (c_X10_cells (d := d + 1) h_a) (fun _ => trivial) (fun _ => rfl) (fun v27 => ?_)
        refine ev_br2 (P := (R26 a 9) = v27) (pct := 121) (pcf := 125) (st' := []) (fun _ _ _ kt kf => e_cne dX10_layBy_118 (tgt := 125) rfl kt kf) (fun h28 => ?_) (fun h28 => ?_)
        · exact ev_ret (e_iconst dX10_layBy_121 (k4 rfl) (e_goto dX10_layBy_122 (tgt := 126) rfl (e_iret dX10_layBy_126)))
        · exact ev_ret (e_iconst dX10_layBy_125 (k4 rfl) (e_iret dX10_layBy_126))
    · exact ev_ret (e_iconst dX10_layBy_15 (k4 rfl) (e_iret dX10_layBy_16))
def f_X10_sideOf (a : Nat) (i0 : Int) (R : xN) : Option (Int) :=
  xlet (w4 (Int.tdiv i0 2)) (fun x1 =>
  if 0 ≤ x1 ∧ x1 < 16 then
  if (Int.tmod i0 2) = 0 then
  if 0 ≤ x1 ∧ x1 < 16 then
  some (w4 ((w4 (2 * (R (a + 5) (x1).toNat))) + (R (a + 6) (x1).toNat)))
  else none
  else
  if 0 ≤ x1 ∧ x1 < 16 then
  some (w4 ((w4 (2 * (R (a + 5) (x1).toNat))) + (w4 (1 - (R (a + 6) (x1).toNat)))))
  else none
  else none)
set_option maxRecDepth 20000 in
set_option maxHeartbeats 4000000 in
theorem c_X10_sideOf {l : Launch} {g : xG} {d : Nat} {A : xA} {R : xN} {a : Nat} (h_a : sh 10 A a) (i0 : Int) : Ev l g (d) mX10_sideOf 0 [xR a, xI i0, xU] [] A R (fun v : Int => some (xI v)) (fun _ => R) (f_X10_sideOf a i0 R) := by
  rw [f_X10_sideOf]
  refine ev_st (pc' := 3) (L' := [xR a, xI i0, xU]) (st' := [xI (w4 (Int.tdiv i0 2))]) (fun _ _ _ k => e_iload_n dX10_sideOf_0 rfl (i := 1) (x := i0) rfl (e_iconst dX10_sideOf_1 (k4 rfl) (e_idiv dX10_sideOf_2 (by decide) k))) ?_
  refine ev_leti (fun x1 ex1 => ?_)
  refine ev_st (pc' := 4) (L' := [xR a, xI i0, xI x1]) (st' := []) (fun _ _ _ k => e_istore_n dX10_sideOf_3 rfl (i := 2) rfl (L' := [xR a, xI i0, xI x1]) rfl k) ?_
  refine ev_st (pc' := 10) (L' := [xR a, xI i0, xI x1]) (st' := [xI x1, xR (a + 5), xI 2]) (fun _ _ _ k => e_iconst dX10_sideOf_4 (k4 rfl) (e_aload_n dX10_sideOf_5 rfl (i := 0) (x := a) rfl (e_getr dX10_sideOf_6 flX10_22 (kd10_0 h_a) rfl (rf10_0_10 h_a) (e_iload_n dX10_sideOf_9 rfl (i := 2) (x := x1) rfl k)))) ?_
  refine ev_chk (fun h2 => ?_)
  refine ev_st (pc' := 11) (L' := [xR a, xI i0, xI x1]) (st' := [xI (R (a + 5) (x1).toNat), xI 2]) (fun _ _ _ k => e_iald dX10_sideOf_10 (kd10_5 h_a) h2.1 h2.2 k) ?_
  refine ev_st (pc' := 15) (L' := [xR a, xI i0, xI x1]) (st' := [xI (Int.tmod i0 2), xI (w4 (2 * (R (a + 5) (x1).toNat)))]) (fun _ _ _ k => e_imul dX10_sideOf_11 (e_iload_n dX10_sideOf_12 rfl (i := 1) (x := i0) rfl (e_iconst dX10_sideOf_13 (k4 rfl) (e_irem dX10_sideOf_14 (by decide) k)))) ?_
  refine ev_br2 (P := (Int.tmod i0 2) = 0) (pct := 18) (pcf := 27) (st' := [xI (w4 (2 * (R (a + 5) (x1).toNat)))]) (fun _ _ _ kt kf => e_ifne dX10_sideOf_15 (tgt := 27) rfl kt kf) (fun h3 => ?_) (fun h3 => ?_)
  · refine ev_st (pc' := 23) (L' := [xR a, xI i0, xI x1]) (st' := [xI x1, xR (a + 6), xI (w4 (2 * (R (a + 5) (x1).toNat)))]) (fun _ _ _ k => e_aload_n dX10_sideOf_18 rfl (i := 0) (x := a) rfl (e_getr dX10_sideOf_19 flX10_25 (kd10_0 h_a) rfl (rf10_0_11 h_a) (e_iload_n dX10_sideOf_22 rfl (i := 2) (x := x1) rfl k))) ?_
    refine ev_chk (fun h4 => ?_)
    refine ev_st (pc' := 24) (L' := [xR a, xI i0, xI x1]) (st' := [xI (R (a + 6) (x1).toNat), xI (w4 (2 * (R (a + 5) (x1).toNat)))]) (fun _ _ _ k => e_iald dX10_sideOf_23 (kd10_6 h_a) h4.1 h4.2 k) ?_
    exact ev_ret (e_goto dX10_sideOf_24 (tgt := 35) rfl (e_iadd dX10_sideOf_35 (e_iret dX10_sideOf_36)))
  · refine ev_st (pc' := 33) (L' := [xR a, xI i0, xI x1]) (st' := [xI x1, xR (a + 6), xI 1, xI (w4 (2 * (R (a + 5) (x1).toNat)))]) (fun _ _ _ k => e_iconst dX10_sideOf_27 (k4 rfl) (e_aload_n dX10_sideOf_28 rfl (i := 0) (x := a) rfl (e_getr dX10_sideOf_29 flX10_25 (kd10_0 h_a) rfl (rf10_0_11 h_a) (e_iload_n dX10_sideOf_32 rfl (i := 2) (x := x1) rfl k)))) ?_
    refine ev_chk (fun h5 => ?_)
    refine ev_st (pc' := 34) (L' := [xR a, xI i0, xI x1]) (st' := [xI (R (a + 6) (x1).toNat), xI 1, xI (w4 (2 * (R (a + 5) (x1).toNat)))]) (fun _ _ _ k => e_iald dX10_sideOf_33 (kd10_6 h_a) h5.1 h5.2 k) ?_
    exact ev_ret (e_isub dX10_sideOf_34 (e_iadd dX10_sideOf_35 (e_iret dX10_sideOf_36)))
def f_X10_turnOf (a : Nat) (i0 : Int) (R : xN) : Option (Int) :=
  if 0 ≤ (w4 (Int.tdiv i0 2)) ∧ (w4 (Int.tdiv i0 2)) < 16 then
  if (R (a + 1) 7) = 1 then
  if (Int.tmod i0 2) = 1 then
  some (b4xor (R (a + 8) ((w4 (Int.tdiv i0 2))).toNat) 1)
  else
  some (b4xor (R (a + 8) ((w4 (Int.tdiv i0 2))).toNat) 0)
  else
  some (b4xor (R (a + 8) ((w4 (Int.tdiv i0 2))).toNat) 0)
  else none
set_option maxRecDepth 20000 in
set_option maxHeartbeats 4000000 in
theorem c_X10_turnOf {l : Launch} {g : xG} {d : Nat} {A : xA} {R : xN} {a : Nat} (h_a : sh 10 A a) (i0 : Int) : Ev l g (d) mX10_turnOf 0 [xR a, xI i0] [] A R (fun v : Int => some (xI v)) (fun _ => R) (f_X10_turnOf a i0 R) := by
  rw [f_X10_turnOf]
  refine ev_st (pc' := 7) (L' := [xR a, xI i0]) (st' := [xI (w4 (Int.tdiv i0 2)), xR (a + 8)]) (fun _ _ _ k => e_aload_n dX10_turnOf_0 rfl (i := 0) (x := a) rfl (e_getr dX10_turnOf_1 flX10_31 (kd10_0 h_a) rfl (rf10_0_13 h_a) (e_iload_n dX10_turnOf_4 rfl (i := 1) (x := i0) rfl (e_iconst dX10_turnOf_5 (k4 rfl) (e_idiv dX10_turnOf_6 (by decide) k))))) ?_
  refine ev_chk (fun h1 => ?_)
  refine ev_st (pc' := 8) (L' := [xR a, xI i0]) (st' := [xI (R (a + 8) ((w4 (Int.tdiv i0 2))).toNat)]) (fun _ _ _ k => e_iald dX10_turnOf_7 (kd10_8 h_a) h1.1 h1.2 k) ?_
  refine ev_st (pc' := 16) (L' := [xR a, xI i0]) (st' := [xI 1, xI (R (a + 1) 7), xI (R (a + 8) ((w4 (Int.tdiv i0 2))).toNat)]) (fun _ _ _ k => e_aload_n dX10_turnOf_8 rfl (i := 0) (x := a) rfl (e_getr dX10_turnOf_9 flX10_7 (kd10_0 h_a) rfl (rf10_0_0 h_a) (e_bipush dX10_turnOf_12 rfl (k4 rfl) (e_iald dX10_turnOf_14 (kd10_1 h_a) (by decide) (by decide) (e_iconst dX10_turnOf_15 (k4 rfl) k))))) ?_
  refine ev_br2 (P := (R (a + 1) 7) = 1) (pct := 19) (pcf := 30) (st' := [xI (R (a + 8) ((w4 (Int.tdiv i0 2))).toNat)]) (fun _ _ _ kt kf => e_cne dX10_turnOf_16 (tgt := 30) rfl kt kf) (fun h2 => ?_) (fun h2 => ?_)
  · refine ev_st (pc' := 23) (L' := [xR a, xI i0]) (st' := [xI 1, xI (Int.tmod i0 2), xI (R (a + 8) ((w4 (Int.tdiv i0 2))).toNat)]) (fun _ _ _ k => e_iload_n dX10_turnOf_19 rfl (i := 1) (x := i0) rfl (e_iconst dX10_turnOf_20 (k4 rfl) (e_irem dX10_turnOf_21 (by decide) (e_iconst dX10_turnOf_22 (k4 rfl) k)))) ?_
    refine ev_br2 (P := (Int.tmod i0 2) = 1) (pct := 26) (pcf := 30) (st' := [xI (R (a + 8) ((w4 (Int.tdiv i0 2))).toNat)]) (fun _ _ _ kt kf => e_cne dX10_turnOf_23 (tgt := 30) rfl kt kf) (fun h3 => ?_) (fun h3 => ?_)
    · exact ev_ret (e_iconst dX10_turnOf_26 (k4 rfl) (e_goto dX10_turnOf_27 (tgt := 31) rfl (e_ixor dX10_turnOf_31 (e_iret dX10_turnOf_32))))
    · exact ev_ret (e_iconst dX10_turnOf_30 (k4 rfl) (e_ixor dX10_turnOf_31 (e_iret dX10_turnOf_32)))
  · exact ev_ret (e_iconst dX10_turnOf_30 (k4 rfl) (e_ixor dX10_turnOf_31 (e_iret dX10_turnOf_32)))
def f_X10_isUpright (a : Nat) (i0 : Int) (R : xN) : Option (Bool) :=
  (f_X10_turnOf a i0 R).bind (fun v1 =>
  (f_X10_sideOf a i0 R).bind (fun v2 =>
  if 0 ≤ (w4 (122 + v2)) ∧ (w4 (122 + v2)) < 464 then
  if v1 = (R (a + 1) ((w4 (122 + v2))).toNat) then
  some true
  else
  some false
  else none))
set_option maxRecDepth 20000 in
set_option maxHeartbeats 4000000 in
theorem c_X10_isUpright {l : Launch} {g : xG} {d : Nat} {A : xA} {R : xN} {a : Nat} (h_a : sh 10 A a) (i0 : Int) : Ev l g (d + 1) mX10_isUpright 0 [xR a, xI i0] [] A R (fun v : Bool => some (xI (xz v))) (fun _ => R) (f_X10_isUpright a i0 R) := by
  rw [f_X10_isUpright]
  refine ev_st (pc' := 2) (L' := [xR a, xI i0]) (st' := [xI i0, xR a]) (fun _ _ _ k => e_aload_n dX10_isUpright_0 rfl (i := 0) (x := a) rfl (e_iload_n dX10_isUpright_1 rfl (i := 1) (x := i0) rfl k)) ?_
  refine ev_callV (As := [xI i0]) (st := []) (fun v1 => [xI v1]) dX10_isUpright_2 mlX10_109 (kd10_0 h_a) rfl rfl rfl rfl rfl rfl (c_X10_turnOf (d := d) h_a i0) (fun _ => trivial) (fun _ => rfl) (fun v1 => ?_)
  refine ev_st (pc' := 13) (L' := [xR a, xI i0]) (st' := [xI i0, xR a, xI 122, xR (a + 1), xI v1]) (fun _ _ _ k => e_aload_n dX10_isUpright_5 rfl (i := 0) (x := a) rfl (e_getr dX10_isUpright_6 flX10_7 (kd10_0 h_a) rfl (rf10_0_0 h_a) (e_bipush dX10_isUpright_9 rfl (k4 rfl) (e_aload_n dX10_isUpright_11 rfl (i := 0) (x := a) rfl (e_iload_n dX10_isUpright_12 rfl (i := 1) (x := i0) rfl k))))) ?_
  refine ev_callV (As := [xI i0]) (st := [xI 122, xR (a + 1), xI v1]) (fun v2 => [xI v2, xI 122, xR (a + 1), xI v1]) dX10_isUpright_13 mlX10_113 (kd10_0 h_a) rfl rfl rfl rfl rfl rfl (c_X10_sideOf (d := d) h_a i0) (fun _ => trivial) (fun _ => rfl) (fun v2 => ?_)
  refine ev_st (pc' := 17) (L' := [xR a, xI i0]) (st' := [xI (w4 (122 + v2)), xR (a + 1), xI v1]) (fun _ _ _ k => e_iadd dX10_isUpright_16 k) ?_
  refine ev_chk (fun h3 => ?_)
  refine ev_st (pc' := 18) (L' := [xR a, xI i0]) (st' := [xI (R (a + 1) ((w4 (122 + v2))).toNat), xI v1]) (fun _ _ _ k => e_iald dX10_isUpright_17 (kd10_1 h_a) h3.1 h3.2 k) ?_
  refine ev_br2 (P := v1 = (R (a + 1) ((w4 (122 + v2))).toNat)) (pct := 21) (pcf := 25) (st' := []) (fun _ _ _ kt kf => e_cne dX10_isUpright_18 (tgt := 25) rfl kt kf) (fun h4 => ?_) (fun h4 => ?_)
  · exact ev_ret (e_iconst dX10_isUpright_21 (k4 rfl) (e_goto dX10_isUpright_22 (tgt := 26) rfl (e_iret dX10_isUpright_26)))
  · exact ev_ret (e_iconst dX10_isUpright_25 (k4 rfl) (e_iret dX10_isUpright_26))
def f_X10_printedOn (a : Nat) (i0 : Int) (R : xN) : Option (Int) :=
  (f_X10_sideOf a i0 R).bind (fun v1 =>
  if 0 ≤ (w4 (90 + v1)) ∧ (w4 (90 + v1)) < 464 then
  some (R (a + 1) ((w4 (90 + v1))).toNat)
  else none)
set_option maxRecDepth 20000 in
set_option maxHeartbeats 4000000 in
theorem c_X10_printedOn {l : Launch} {g : xG} {d : Nat} {A : xA} {R : xN} {a : Nat} (h_a : sh 10 A a) (i0 : Int) : Ev l g (d + 1) mX10_printedOn 0 [xR a, xI i0] [] A R (fun v : Int => some (xI v)) (fun _ => R) (f_X10_printedOn a i0 R) := by
  rw [f_X10_printedOn]
  refine ev_st (pc' := 8) (L' := [xR a, xI i0]) (st' := [xI i0, xR a, xI 90, xR (a + 1)]) (fun _ _ _ k => e_aload_n dX10_printedOn_0 rfl (i := 0) (x := a) rfl (e_getr dX10_printedOn_1 flX10_7 (kd10_0 h_a) rfl (rf10_0_0 h_a) (e_bipush dX10_printedOn_4 rfl (k4 rfl) (e_aload_n dX10_printedOn_6 rfl (i := 0) (x := a) rfl (e_iload_n dX10_printedOn_7 rfl (i := 1) (x := i0) rfl k))))) ?_
  refine ev_callV (As := [xI i0]) (st := [xI 90, xR (a + 1)]) (fun v1 => [xI v1, xI 90, xR (a + 1)]) dX10_printedOn_8 mlX10_113 (kd10_0 h_a) rfl rfl rfl rfl rfl rfl (c_X10_sideOf (d := d) h_a i0) (fun _ => trivial) (fun _ => rfl) (fun v1 => ?_)
  refine ev_st (pc' := 12) (L' := [xR a, xI i0]) (st' := [xI (w4 (90 + v1)), xR (a + 1)]) (fun _ _ _ k => e_iadd dX10_printedOn_11 k) ?_
  refine ev_chk (fun h2 => ?_)
  refine ev_st (pc' := 13) (L' := [xR a, xI i0]) (st' := [xI (R (a + 1) ((w4 (90 + v1))).toNat)]) (fun _ _ _ k => e_iald dX10_printedOn_12 (kd10_1 h_a) h2.1 h2.2 k) ?_
  exact ev_ret (e_iret dX10_printedOn_13)
def f_X10_spineEdge (a : Nat) (R : xN) : Option (Int) :=
  xlet (if (R (a + 1) 7) = 0 then 0 else 2) (fun t1 =>
  some t1)
set_option maxRecDepth 20000 in
set_option maxHeartbeats 4000000 in
theorem c_X10_spineEdge {l : Launch} {g : xG} {d : Nat} {A : xA} {R : xN} {a : Nat} (h_a : sh 10 A a)  : Ev l g (d) mX10_spineEdge 0 [xR a] [] A R (fun v : Int => some (xI v)) (fun _ => R) (f_X10_spineEdge a R) := by
  rw [f_X10_spineEdge]
  refine ev_st (pc' := 7) (L' := [xR a]) (st' := [xI (R (a + 1) 7)]) (fun _ _ _ k => e_aload_n dX10_spineEdge_0 rfl (i := 0) (x := a) rfl (e_getr dX10_spineEdge_1 flX10_7 (kd10_0 h_a) rfl (rf10_0_0 h_a) (e_bipush dX10_spineEdge_4 rfl (k4 rfl) (e_iald dX10_spineEdge_6 (kd10_1 h_a) (by decide) (by decide) k)))) ?_
  refine ev_tern (P := (R (a + 1) 7) = 0) (a := 0) (b := 2) (pct := 10) (pcf := 14) (J := 15) (st' := []) (fun _ _ _ kt kf => e_ifne dX10_spineEdge_7 (tgt := 14) rfl kt kf) (fun _ _ _ k => e_iconst dX10_spineEdge_10 (k4 rfl) (e_goto dX10_spineEdge_11 (tgt := 15) rfl k)) (fun _ _ _ k => e_iconst dX10_spineEdge_14 (k4 rfl) k) (fun t1 et1 => ?_)
  exact ev_ret (e_iret dX10_spineEdge_15)
def f_X10_edgeOf (a : Nat) (i0 : Int) (i1 : Int) (R : xN) : Option (Int) :=
  if 0 ≤ i0 ∧ i0 < 16 then
  if 0 ≤ i1 ∧ i1 < 16 then
  xlet (if (R (a + 5) (i1).toNat) ≤ (R (a + 5) (i0).toNat) then i1 else i0) (fun t3 =>
  xlet (R (a + 1) 1) (fun x4 =>
  if 0 ≤ t3 ∧ t3 < 16 then
  xlet (R (a + 5) (t3).toNat) (fun x6 =>
  if 0 ≤ (w4 ((w4 (i0 + i1)) - t3)) ∧ (w4 ((w4 (i0 + i1)) - t3)) < 16 then
  xlet (R (a + 5) ((w4 ((w4 (i0 + i1)) - t3))).toNat) (fun x8 =>
  if x8 = (w4 (x6 + 1)) then
  if x4 ≠ 0 then
  if (Int.tmod x8 x4) ≤ 0 then
  if x8 = (w4 (x6 + x4)) then
  if 0 ≤ t3 ∧ t3 < 16 then
  xlet (if (R (a + 8) (t3).toNat) = 0 then 3 else 2) (fun t14 =>
  some t14)
  else none
  else
  some (-1)
  else
  if 0 ≤ t3 ∧ t3 < 16 then
  if (R (a + 7) (t3).toNat) = 0 then
  some 1
  else
  some 0
  else none
  else none
  else
  if x8 = (w4 (x6 + x4)) then
  if 0 ≤ t3 ∧ t3 < 16 then
  xlet (if (R (a + 8) (t3).toNat) = 0 then 3 else 2) (fun t19 =>
  some t19)
  else none
  else
  some (-1))
  else none)
  else none))
  else none
  else none
set_option maxRecDepth 20000 in
set_option maxHeartbeats 4000000 in
theorem c_X10_edgeOf {l : Launch} {g : xG} {d : Nat} {A : xA} {R : xN} {a : Nat} (h_a : sh 10 A a) (i0 : Int) (i1 : Int) : Ev l g (d) mX10_edgeOf 0 [xR a, xI i0, xI i1, xU, xU, xU, xU] [] A R (fun v : Int => some (xI v)) (fun _ => R) (f_X10_edgeOf a i0 i1 R) := by
  rw [f_X10_edgeOf]
  refine ev_st (pc' := 5) (L' := [xR a, xI i0, xI i1, xU, xU, xU, xU]) (st' := [xI i0, xR (a + 5)]) (fun _ _ _ k => e_aload_n dX10_edgeOf_0 rfl (i := 0) (x := a) rfl (e_getr dX10_edgeOf_1 flX10_22 (kd10_0 h_a) rfl (rf10_0_10 h_a) (e_iload_n dX10_edgeOf_4 rfl (i := 1) (x := i0) rfl k))) ?_
  refine ev_chk (fun h1 => ?_)
  refine ev_st (pc' := 6) (L' := [xR a, xI i0, xI i1, xU, xU, xU, xU]) (st' := [xI (R (a + 5) (i0).toNat)]) (fun _ _ _ k => e_iald dX10_edgeOf_5 (kd10_5 h_a) h1.1 h1.2 k) ?_
  refine ev_st (pc' := 11) (L' := [xR a, xI i0, xI i1, xU, xU, xU, xU]) (st' := [xI i1, xR (a + 5), xI (R (a + 5) (i0).toNat)]) (fun _ _ _ k => e_aload_n dX10_edgeOf_6 rfl (i := 0) (x := a) rfl (e_getr dX10_edgeOf_7 flX10_22 (kd10_0 h_a) rfl (rf10_0_10 h_a) (e_iload_n dX10_edgeOf_10 rfl (i := 2) (x := i1) rfl k))) ?_
  refine ev_chk (fun h2 => ?_)
  refine ev_st (pc' := 12) (L' := [xR a, xI i0, xI i1, xU, xU, xU, xU]) (st' := [xI (R (a + 5) (i1).toNat), xI (R (a + 5) (i0).toNat)]) (fun _ _ _ k => e_iald dX10_edgeOf_11 (kd10_5 h_a) h2.1 h2.2 k) ?_
  refine ev_tern (P := (R (a + 5) (i1).toNat) ≤ (R (a + 5) (i0).toNat)) (a := i1) (b := i0) (pct := 19) (pcf := 15) (J := 20) (st' := []) (fun _ _ _ kt kf => e_cge dX10_edgeOf_12 (tgt := 19) rfl kt kf) (fun _ _ _ k => e_iload_n dX10_edgeOf_19 rfl (i := 2) (x := i1) rfl k) (fun _ _ _ k => e_iload_n dX10_edgeOf_15 rfl (i := 1) (x := i0) rfl (e_goto dX10_edgeOf_16 (tgt := 20) rfl k)) (fun t3 et3 => ?_)
  refine ev_st (pc' := 27) (L' := [xR a, xI i0, xI i1, xI t3, xU, xU, xU]) (st' := [xI (R (a + 1) 1)]) (fun _ _ _ k => e_istore_n dX10_edgeOf_20 rfl (i := 3) rfl (L' := [xR a, xI i0, xI i1, xI t3, xU, xU, xU]) rfl (e_aload_n dX10_edgeOf_21 rfl (i := 0) (x := a) rfl (e_getr dX10_edgeOf_22 flX10_7 (kd10_0 h_a) rfl (rf10_0_0 h_a) (e_iconst dX10_edgeOf_25 (k4 rfl) (e_iald dX10_edgeOf_26 (kd10_1 h_a) (by decide) (by decide) k))))) ?_
  refine ev_leti (fun x4 ex4 => ?_)
  refine ev_st (pc' := 29) (L' := [xR a, xI i0, xI i1, xI t3, xI x4, xU, xU]) (st' := []) (fun _ _ _ k => e_istore dX10_edgeOf_27 (i := 4) rfl (L' := [xR a, xI i0, xI i1, xI t3, xI x4, xU, xU]) rfl k) ?_
  refine ev_st (pc' := 34) (L' := [xR a, xI i0, xI i1, xI t3, xI x4, xU, xU]) (st' := [xI t3, xR (a + 5)]) (fun _ _ _ k => e_aload_n dX10_edgeOf_29 rfl (i := 0) (x := a) rfl (e_getr dX10_edgeOf_30 flX10_22 (kd10_0 h_a) rfl (rf10_0_10 h_a) (e_iload_n dX10_edgeOf_33 rfl (i := 3) (x := t3) rfl k))) ?_
  refine ev_chk (fun h5 => ?_)
  refine ev_st (pc' := 35) (L' := [xR a, xI i0, xI i1, xI t3, xI x4, xU, xU]) (st' := [xI (R (a + 5) (t3).toNat)]) (fun _ _ _ k => e_iald dX10_edgeOf_34 (kd10_5 h_a) h5.1 h5.2 k) ?_
  refine ev_leti (fun x6 ex6 => ?_)
  refine ev_st (pc' := 37) (L' := [xR a, xI i0, xI i1, xI t3, xI x4, xI x6, xU]) (st' := []) (fun _ _ _ k => e_istore dX10_edgeOf_35 (i := 5) rfl (L' := [xR a, xI i0, xI i1, xI t3, xI x4, xI x6, xU]) rfl k) ?_
  refine ev_st (pc' := 46) (L' := [xR a, xI i0, xI i1, xI t3, xI x4, xI x6, xU]) (st' := [xI (w4 ((w4 (i0 + i1)) - t3)), xR (a + 5)]) (fun _ _ _ k => e_aload_n dX10_edgeOf_37 rfl (i := 0) (x := a) rfl (e_getr dX10_edgeOf_38 flX10_22 (kd10_0 h_a) rfl (rf10_0_10 h_a) (e_iload_n dX10_edgeOf_41 rfl (i := 1) (x := i0) rfl (e_iload_n dX10_edgeOf_42 rfl (i := 2) (x := i1) rfl (e_iadd dX10_edgeOf_43 (e_iload_n dX10_edgeOf_44 rfl (i := 3) (x := t3) rfl (e_isub dX10_edgeOf_45 k))))))) ?_
  refine ev_chk (fun h7 => ?_)
  refine ev_st (pc' := 47) (L' := [xR a, xI i0, xI i1, xI t3, xI x4, xI x6, xU]) (st' := [xI (R (a + 5) ((w4 ((w4 (i0 + i1)) - t3))).toNat)]) (fun _ _ _ k => e_iald dX10_edgeOf_46 (kd10_5 h_a) h7.1 h7.2 k) ?_
  refine ev_leti (fun x8 ex8 => ?_)
  refine ev_st (pc' := 49) (L' := [xR a, xI i0, xI i1, xI t3, xI x4, xI x6, xI x8]) (st' := []) (fun _ _ _ k => e_istore dX10_edgeOf_47 (i := 6) rfl (L' := [xR a, xI i0, xI i1, xI t3, xI x4, xI x6, xI x8]) rfl k) ?_
  refine ev_st (pc' := 55) (L' := [xR a, xI i0, xI i1, xI t3, xI x4, xI x6, xI x8]) (st' := [xI (w4 (x6 + 1)), xI x8]) (fun _ _ _ k => e_iload dX10_edgeOf_49 (i := 6) (x := x8) rfl (e_iload dX10_edgeOf_51 (i := 5) (x := x6) rfl (e_iconst dX10_edgeOf_53 (k4 rfl) (e_iadd dX10_edgeOf_54 k)))) ?_
  refine ev_br2 (P := x8 = (w4 (x6 + 1))) (pct := 58) (pcf := 81) (st' := []) (fun _ _ _ kt kf => e_cne dX10_edgeOf_55 (tgt := 81) rfl kt kf) (fun h9 => ?_) (fun h9 => ?_)
  · refine ev_st (pc' := 62) (L' := [xR a, xI i0, xI i1, xI t3, xI x4, xI x6, xI x8]) (st' := [xI x4, xI x8]) (fun _ _ _ k => e_iload dX10_edgeOf_58 (i := 6) (x := x8) rfl (e_iload dX10_edgeOf_60 (i := 4) (x := x4) rfl k)) ?_
    refine ev_chk (fun h10 => ?_)
    refine ev_st (pc' := 63) (L' := [xR a, xI i0, xI i1, xI t3, xI x4, xI x6, xI x8]) (st' := [xI (Int.tmod x8 x4)]) (fun _ _ _ k => e_irem dX10_edgeOf_62 h10 k) ?_
    refine ev_br2 (P := (Int.tmod x8 x4) ≤ 0) (pct := 81) (pcf := 66) (st' := []) (fun _ _ _ kt kf => e_ifle dX10_edgeOf_63 (tgt := 81) rfl kt kf) (fun h11 => ?_) (fun h11 => ?_)
    · refine ev_st (pc' := 88) (L' := [xR a, xI i0, xI i1, xI t3, xI x4, xI x6, xI x8]) (st' := [xI (w4 (x6 + x4)), xI x8]) (fun _ _ _ k => e_iload dX10_edgeOf_81 (i := 6) (x := x8) rfl (e_iload dX10_edgeOf_83 (i := 5) (x := x6) rfl (e_iload dX10_edgeOf_85 (i := 4) (x := x4) rfl (e_iadd dX10_edgeOf_87 k)))) ?_
      refine ev_br2 (P := x8 = (w4 (x6 + x4))) (pct := 91) (pcf := 108) (st' := []) (fun _ _ _ kt kf => e_cne dX10_edgeOf_88 (tgt := 108) rfl kt kf) (fun h12 => ?_) (fun h12 => ?_)
      · refine ev_st (pc' := 96) (L' := [xR a, xI i0, xI i1, xI t3, xI x4, xI x6, xI x8]) (st' := [xI t3, xR (a + 8)]) (fun _ _ _ k => e_aload_n dX10_edgeOf_91 rfl (i := 0) (x := a) rfl (e_getr dX10_edgeOf_92 flX10_31 (kd10_0 h_a) rfl (rf10_0_13 h_a) (e_iload_n dX10_edgeOf_95 rfl (i := 3) (x := t3) rfl k))) ?_
        refine ev_chk (fun h13 => ?_)
        refine ev_st (pc' := 97) (L' := [xR a, xI i0, xI i1, xI t3, xI x4, xI x6, xI x8]) (st' := [xI (R (a + 8) (t3).toNat)]) (fun _ _ _ k => e_iald dX10_edgeOf_96 (kd10_8 h_a) h13.1 h13.2 k) ?_
        refine ev_tern (P := (R (a + 8) (t3).toNat) = 0) (a := 3) (b := 2) (pct := 100) (pcf := 104) (J := 109) (st' := []) (fun _ _ _ kt kf => e_ifne dX10_edgeOf_97 (tgt := 104) rfl kt kf) (fun _ _ _ k => e_iconst dX10_edgeOf_100 (k4 rfl) (e_goto dX10_edgeOf_101 (tgt := 109) rfl k)) (fun _ _ _ k => e_iconst dX10_edgeOf_104 (k4 rfl) (e_goto dX10_edgeOf_105 (tgt := 109) rfl k)) (fun t14 et14 => ?_)
        exact ev_ret (e_iret dX10_edgeOf_109)
      · exact ev_ret (e_iconst dX10_edgeOf_108 (k4 rfl) (e_iret dX10_edgeOf_109))
    · refine ev_st (pc' := 71) (L' := [xR a, xI i0, xI i1, xI t3, xI x4, xI x6, xI x8]) (st' := [xI t3, xR (a + 7)]) (fun _ _ _ k => e_aload_n dX10_edgeOf_66 rfl (i := 0) (x := a) rfl (e_getr dX10_edgeOf_67 flX10_28 (kd10_0 h_a) rfl (rf10_0_12 h_a) (e_iload_n dX10_edgeOf_70 rfl (i := 3) (x := t3) rfl k))) ?_
      refine ev_chk (fun h15 => ?_)
      refine ev_st (pc' := 72) (L' := [xR a, xI i0, xI i1, xI t3, xI x4, xI x6, xI x8]) (st' := [xI (R (a + 7) (t3).toNat)]) (fun _ _ _ k => e_iald dX10_edgeOf_71 (kd10_7 h_a) h15.1 h15.2 k) ?_
      refine ev_br2 (P := (R (a + 7) (t3).toNat) = 0) (pct := 75) (pcf := 79) (st' := []) (fun _ _ _ kt kf => e_ifne dX10_edgeOf_72 (tgt := 79) rfl kt kf) (fun h16 => ?_) (fun h16 => ?_)
      · exact ev_ret (e_iconst dX10_edgeOf_75 (k4 rfl) (e_goto dX10_edgeOf_76 (tgt := 80) rfl (e_iret dX10_edgeOf_80)))
      · exact ev_ret (e_iconst dX10_edgeOf_79 (k4 rfl) (e_iret dX10_edgeOf_80))
  · refine ev_st (pc' := 88) (L' := [xR a, xI i0, xI i1, xI t3, xI x4, xI x6, xI x8]) (st' := [xI (w4 (x6 + x4)), xI x8]) (fun _ _ _ k => e_iload dX10_edgeOf_81 (i := 6) (x := x8) rfl (e_iload dX10_edgeOf_83 (i := 5) (x := x6) rfl (e_iload dX10_edgeOf_85 (i := 4) (x := x4) rfl (e_iadd dX10_edgeOf_87 k)))) ?_
    refine ev_br2 (P := x8 = (w4 (x6 + x4))) (pct := 91) (pcf := 108) (st' := []) (fun _ _ _ kt kf => e_cne dX10_edgeOf_88 (tgt := 108) rfl kt kf) (fun h17 => ?_) (fun h17 => ?_)
    · refine ev_st (pc' := 96) (L' := [xR a, xI i0, xI i1, xI t3, xI x4, xI x6, xI x8]) (st' := [xI t3, xR (a + 8)]) (fun _ _ _ k => e_aload_n dX10_edgeOf_91 rfl (i := 0) (x := a) rfl (e_getr dX10_edgeOf_92 flX10_31 (kd10_0 h_a) rfl (rf10_0_13 h_a) (e_iload_n dX10_edgeOf_95 rfl (i := 3) (x := t3) rfl k))) ?_
      refine ev_chk (fun h18 => ?_)
      refine ev_st (pc' := 97) (L' := [xR a, xI i0, xI i1, xI t3, xI x4, xI x6, xI x8]) (st' := [xI (R (a + 8) (t3).toNat)]) (fun _ _ _ k => e_iald dX10_edgeOf_96 (kd10_8 h_a) h18.1 h18.2 k) ?_
      refine ev_tern (P := (R (a + 8) (t3).toNat) = 0) (a := 3) (b := 2) (pct := 100) (pcf := 104) (J := 109) (st' := []) (fun _ _ _ kt kf => e_ifne dX10_edgeOf_97 (tgt := 104) rfl kt kf) (fun _ _ _ k => e_iconst dX10_edgeOf_100 (k4 rfl) (e_goto dX10_edgeOf_101 (tgt := 109) rfl k)) (fun _ _ _ k => e_iconst dX10_edgeOf_104 (k4 rfl) (e_goto dX10_edgeOf_105 (tgt := 109) rfl k)) (fun t19 et19 => ?_)
      exact ev_ret (e_iret dX10_edgeOf_109)
    · exact ev_ret (e_iconst dX10_edgeOf_108 (k4 rfl) (e_iret dX10_edgeOf_109))
