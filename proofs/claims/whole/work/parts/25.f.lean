def lp_X9_commandAt_2 (a : Nat) (R : xN) : Nat → Int → (Int → Option (Int)) → Option (Int)
  | 0, _, _ => none
  | n + 1, y1, X =>
    if 9 < y1 then
    X y1
    else
    (f_X9_wordOf y1 R).bind (fun v2 =>
    (f_X6_isWord a v2 R).bind (fun v3 =>
    if v3 = true then
    some y1
    else
    xlet (w4 (y1 + 1)) (fun x5 =>
    lp_X9_commandAt_2 a R n x5 X)))
def f_X9_commandAt (a : Nat) (R : xN) : Option (Int) :=
  lp_X9_commandAt_2 a R 6000 1 (fun z6 =>
  some 0)
set_option maxRecDepth 20000 in
set_option maxHeartbeats 4000000 in
theorem lc_X9_commandAt_2 {l : Launch} {g : xG} {d : Nat} {A : xA} {a : Nat} (h_a : sh 6 A a) (R : xN) {X : Int → Option (Int)} (hX : ∀ (y1 : Int), Ev l g (d + 6) mX9_commandAt 27 [xU, xU] [] A R (fun v : Int => some (xI v)) (fun _ => R) (X y1)) (n : Nat) (y1 : Int) : Ev l g (d + 6) mX9_commandAt 2 [xR a, xI y1] [] A R (fun v : Int => some (xI v)) (fun _ => R) (lp_X9_commandAt_2 a R n y1 X) := by
  induction n generalizing y1 with
  | zero => exact ev_none
  | succ n ih =>
    rw [lp_X9_commandAt_2]
    refine ev_st (pc' := 5) (L' := [xR a, xI y1]) (st' := [xI 9, xI y1]) (fun _ _ _ k => e_iload_n dX9_commandAt_2 rfl (i := 1) (x := y1) rfl (e_bipush dX9_commandAt_3 rfl (k4 rfl) k)) ?_
    refine ev_br2 (P := 9 < y1) (pct := 27) (pcf := 8) (st' := []) (fun _ _ _ kt kf => e_cgt dX9_commandAt_5 (tgt := 27) rfl kt kf) (fun h1 => ?_) (fun h1 => ?_)
    · refine ev_st (pc' := 27) (L' := [xU, xU]) (st' := []) (fun _ _ _ k => e_fg [0, 1] k) ?_
      exact hX y1
    · refine ev_st (pc' := 10) (L' := [xR a, xI y1]) (st' := [xI y1, xR a]) (fun _ _ _ k => e_aload_n dX9_commandAt_8 rfl (i := 0) (x := a) rfl (e_iload_n dX9_commandAt_9 rfl (i := 1) (x := y1) rfl k)) ?_
      refine ev_callS (As := [xI y1]) (st := [xR a]) (fun v2 => [xS v2, xR a]) dX9_commandAt_10 mlX9_217 rfl rfl rfl rfl rfl rfl (c_X9_wordOf (d := d + 5) y1) (fun _ => trivial) (fun _ => rfl) (fun v2 => ?_)
      refine ev_callV (As := [xS v2]) (st := []) (fun v3 => [xI (xz v3)]) dX9_commandAt_13 mlX9_213 (kd6_0 h_a) rfl rfl rfl rfl rfl rfl (c_X6_isWord (d := d) h_a v2) (fun _ => xz01 _) (fun _ => rfl) (fun v3 => ?_)
      refine ev_br2 (P := v3 = true) (pct := 19) (pcf := 21) (st' := []) (fun _ _ _ kt kf => e_ifeqz dX9_commandAt_16 (tgt := 21) rfl kt kf) (fun h4 => ?_) (fun h4 => ?_)
      · exact ev_ret (e_iload_n dX9_commandAt_19 rfl (i := 1) (x := y1) rfl (e_iret dX9_commandAt_20))
      · refine ev_letx (fun x5 ex5 => ?_)
        refine ev_st (pc' := 24) (L' := [xR a, xI x5]) (st' := []) (fun _ _ _ k => e_iinc dX9_commandAt_21 (i := 1) rfl (x := y1) rfl (y := x5) ex5 (L' := [xR a, xI x5]) rfl k) ?_
        refine ev_st (pc' := 2) (L' := [xR a, xI x5]) (st' := []) (fun _ _ _ k => e_goto dX9_commandAt_24 (tgt := 2) rfl k) ?_
        exact ih x5
set_option maxRecDepth 20000 in
set_option maxHeartbeats 4000000 in
theorem c_X9_commandAt {l : Launch} {g : xG} {d : Nat} {A : xA} {R : xN} {a : Nat} (h_a : sh 6 A a)  : Ev l g (d + 6) mX9_commandAt 0 [xR a, xU] [] A R (fun v : Int => some (xI v)) (fun _ => R) (f_X9_commandAt a R) := by
  rw [f_X9_commandAt]
  refine ev_st (pc' := 2) (L' := [xR a, xI 1]) (st' := []) (fun _ _ _ k => e_iconst dX9_commandAt_0 (k4 rfl) (e_istore_n dX9_commandAt_1 rfl (i := 1) rfl (L' := [xR a, xI 1]) rfl k)) ?_
  refine lc_X9_commandAt_2 h_a R (fun z6 => ?_) 6000 1
  exact ev_ret (e_iconst dX9_commandAt_27 (k4 rfl) (e_iret dX9_commandAt_28))
def f_X9_edgeAt (a : Nat) (i1 : Bool) (R : xN) : Option (Int) :=
  (f_X6_isWord a 10 R).bind (fun v1 =>
  if v1 = true then
  some 0
  else
  (f_X6_isWord a 11 R).bind (fun v3 =>
  if v3 = true then
  xlet (if i1 = true then 2 else 1) (fun t5 =>
  some t5)
  else
  if i1 = true then
  (f_X6_isWord a 12 R).bind (fun v7 =>
  if v7 = true then
  some 1
  else
  if i1 = true then
  (f_X6_isWord a 13 R).bind (fun v10 =>
  if v10 = true then
  some 3
  else
  some (-9))
  else
  some (-9))
  else
  if i1 = true then
  (f_X6_isWord a 13 R).bind (fun v13 =>
  if v13 = true then
  some 3
  else
  some (-9))
  else
  some (-9)))
set_option maxRecDepth 20000 in
set_option maxHeartbeats 4000000 in
theorem c_X9_edgeAt {l : Launch} {g : xG} {d : Nat} {A : xA} {R : xN} {a : Nat} (h_a : sh 6 A a) (i1 : Bool) : Ev l g (d + 6) mX9_edgeAt 0 [xR a, xI (xz i1)] [] A R (fun v : Int => some (xI v)) (fun _ => R) (f_X9_edgeAt a i1 R) := by
  rw [f_X9_edgeAt]
  refine ev_st (pc' := 3) (L' := [xR a, xI (xz i1)]) (st' := [xS 10, xR a]) (fun _ _ _ k => e_aload_n dX9_edgeAt_0 rfl (i := 0) (x := a) rfl (e_ldcS (i := 10) (by decide) rfl dX9_edgeAt_1 k)) ?_
  refine ev_callV (As := [xS 10]) (st := []) (fun v1 => [xI (xz v1)]) dX9_edgeAt_3 mlX9_213 (kd6_0 h_a) rfl rfl rfl rfl rfl rfl (c_X6_isWord (d := d) h_a 10) (fun _ => xz01 _) (fun _ => rfl) (fun v1 => ?_)
  refine ev_br2 (P := v1 = true) (pct := 9) (pcf := 11) (st' := []) (fun _ _ _ kt kf => e_ifeqz dX9_edgeAt_6 (tgt := 11) rfl kt kf) (fun h2 => ?_) (fun h2 => ?_)
  · exact ev_ret (e_iconst dX9_edgeAt_9 (k4 rfl) (e_iret dX9_edgeAt_10))
  · refine ev_st (pc' := 14) (L' := [xR a, xI (xz i1)]) (st' := [xS 11, xR a]) (fun _ _ _ k => e_aload_n dX9_edgeAt_11 rfl (i := 0) (x := a) rfl (e_ldcS (i := 11) (by decide) rfl dX9_edgeAt_12 k)) ?_
    refine ev_callV (As := [xS 11]) (st := []) (fun v3 => [xI (xz v3)]) dX9_edgeAt_14 mlX9_213 (kd6_0 h_a) rfl rfl rfl rfl rfl rfl (c_X6_isWord (d := d) h_a 11) (fun _ => xz01 _) (fun _ => rfl) (fun v3 => ?_)
    refine ev_br2 (P := v3 = true) (pct := 20) (pcf := 30) (st' := []) (fun _ _ _ kt kf => e_ifeqz dX9_edgeAt_17 (tgt := 30) rfl kt kf) (fun h4 => ?_) (fun h4 => ?_)
    · refine ev_st (pc' := 21) (L' := [xR a, xI (xz i1)]) (st' := [xI (xz i1)]) (fun _ _ _ k => e_iload_n dX9_edgeAt_20 rfl (i := 1) (x := (xz i1)) rfl k) ?_
      refine ev_tern (P := i1 = true) (a := 2) (b := 1) (pct := 24) (pcf := 28) (J := 29) (st' := []) (fun _ _ _ kt kf => e_ifeqz dX9_edgeAt_21 (tgt := 28) rfl kt kf) (fun _ _ _ k => e_iconst dX9_edgeAt_24 (k4 rfl) (e_goto dX9_edgeAt_25 (tgt := 29) rfl k)) (fun _ _ _ k => e_iconst dX9_edgeAt_28 (k4 rfl) k) (fun t5 et5 => ?_)
      exact ev_ret (e_iret dX9_edgeAt_29)
    · refine ev_st (pc' := 31) (L' := [xR a, xI (xz i1)]) (st' := [xI (xz i1)]) (fun _ _ _ k => e_iload_n dX9_edgeAt_30 rfl (i := 1) (x := (xz i1)) rfl k) ?_
      refine ev_br2 (P := i1 = true) (pct := 34) (pcf := 45) (st' := []) (fun _ _ _ kt kf => e_ifeqz dX9_edgeAt_31 (tgt := 45) rfl kt kf) (fun h6 => ?_) (fun h6 => ?_)
      · refine ev_st (pc' := 37) (L' := [xR a, xI (xz i1)]) (st' := [xS 12, xR a]) (fun _ _ _ k => e_aload_n dX9_edgeAt_34 rfl (i := 0) (x := a) rfl (e_ldcS (i := 12) (by decide) rfl dX9_edgeAt_35 k)) ?_
        refine ev_callV (As := [xS 12]) (st := []) (fun v7 => [xI (xz v7)]) dX9_edgeAt_37 mlX9_213 (kd6_0 h_a) rfl rfl rfl rfl rfl rfl (c_X6_isWord (d := d) h_a 12) (fun _ => xz01 _) (fun _ => rfl) (fun v7 => ?_)
        refine ev_br2 (P := v7 = true) (pct := 43) (pcf := 45) (st' := []) (fun _ _ _ kt kf => e_ifeqz dX9_edgeAt_40 (tgt := 45) rfl kt kf) (fun h8 => ?_) (fun h8 => ?_)
        · exact ev_ret (e_iconst dX9_edgeAt_43 (k4 rfl) (e_iret dX9_edgeAt_44))
        · refine ev_st (pc' := 46) (L' := [xR a, xI (xz i1)]) (st' := [xI (xz i1)]) (fun _ _ _ k => e_iload_n dX9_edgeAt_45 rfl (i := 1) (x := (xz i1)) rfl k) ?_
          refine ev_br2 (P := i1 = true) (pct := 49) (pcf := 60) (st' := []) (fun _ _ _ kt kf => e_ifeqz dX9_edgeAt_46 (tgt := 60) rfl kt kf) (fun h9 => ?_) (fun h9 => ?_)
          · refine ev_st (pc' := 52) (L' := [xR a, xI (xz i1)]) (st' := [xS 13, xR a]) (fun _ _ _ k => e_aload_n dX9_edgeAt_49 rfl (i := 0) (x := a) rfl (e_ldcS (i := 13) (by decide) rfl dX9_edgeAt_50 k)) ?_
            refine ev_callV (As := [xS 13]) (st := []) (fun v10 => [xI (xz v10)]) dX9_edgeAt_52 mlX9_213 (kd6_0 h_a) rfl rfl rfl rfl rfl rfl (c_X6_isWord (d := d) h_a 13) (fun _ => xz01 _) (fun _ => rfl) (fun v10 => ?_)
            refine ev_br2 (P := v10 = true) (pct := 58) (pcf := 60) (st' := []) (fun _ _ _ kt kf => e_ifeqz dX9_edgeAt_55 (tgt := 60) rfl kt kf) (fun h11 => ?_) (fun h11 => ?_)
            · exact ev_ret (e_iconst dX9_edgeAt_58 (k4 rfl) (e_iret dX9_edgeAt_59))
            · exact ev_ret (e_bipush dX9_edgeAt_60 rfl (k4 rfl) (e_iret dX9_edgeAt_62))
          · exact ev_ret (e_bipush dX9_edgeAt_60 rfl (k4 rfl) (e_iret dX9_edgeAt_62))
      · refine ev_st (pc' := 46) (L' := [xR a, xI (xz i1)]) (st' := [xI (xz i1)]) (fun _ _ _ k => e_iload_n dX9_edgeAt_45 rfl (i := 1) (x := (xz i1)) rfl k) ?_
        refine ev_br2 (P := i1 = true) (pct := 49) (pcf := 60) (st' := []) (fun _ _ _ kt kf => e_ifeqz dX9_edgeAt_46 (tgt := 60) rfl kt kf) (fun h12 => ?_) (fun h12 => ?_)
        · refine ev_st (pc' := 52) (L' := [xR a, xI (xz i1)]) (st' := [xS 13, xR a]) (fun _ _ _ k => e_aload_n dX9_edgeAt_49 rfl (i := 0) (x := a) rfl (e_ldcS (i := 13) (by decide) rfl dX9_edgeAt_50 k)) ?_
          refine ev_callV (As := [xS 13]) (st := []) (fun v13 => [xI (xz v13)]) dX9_edgeAt_52 mlX9_213 (kd6_0 h_a) rfl rfl rfl rfl rfl rfl (c_X6_isWord (d := d) h_a 13) (fun _ => xz01 _) (fun _ => rfl) (fun v13 => ?_)
          refine ev_br2 (P := v13 = true) (pct := 58) (pcf := 60) (st' := []) (fun _ _ _ kt kf => e_ifeqz dX9_edgeAt_55 (tgt := 60) rfl kt kf) (fun h14 => ?_) (fun h14 => ?_)
          · exact ev_ret (e_iconst dX9_edgeAt_58 (k4 rfl) (e_iret dX9_edgeAt_59))
          · exact ev_ret (e_bipush dX9_edgeAt_60 rfl (k4 rfl) (e_iret dX9_edgeAt_62))
        · exact ev_ret (e_bipush dX9_edgeAt_60 rfl (k4 rfl) (e_iret dX9_edgeAt_62))
def f_X9_readArgument (a : Nat) (i0 : Int) (R : xN) : Option (xN) :=
  if i0 = (-9) then
  some R
  else
  (f_X9_isIn (R a 8) 0 3 R).bind (fun v2 =>
  if v2 = true then
  if 0 ≤ (R a 8) ∧ (R a 8) < 4 then
  xlet (xup R (a + 322) ((R a 8)).toNat i0) (fun R5 =>
  xlet (xup R5 a 8 (w4 ((R5 a 8) + 1))) (fun R6 =>
  (f_X6_advance (a + 320) R6).bind (fun v7 =>
  some v7)))
  else none
  else
  some R)
set_option maxRecDepth 20000 in
set_option maxHeartbeats 4000000 in
theorem c_X9_readArgument {l : Launch} {g : xG} {d : Nat} {A : xA} {R : xN} {a : Nat} (h_a : sh 9 A a) (i0 : Int) : Ev l g (d + 3) mX9_readArgument 0 [xR a, xI i0] [] A R (fun _ : xN => none) (fun v => v) (f_X9_readArgument a i0 R) := by
  rw [f_X9_readArgument]
  refine ev_st (pc' := 3) (L' := [xR a, xI i0]) (st' := [xI (-9), xI i0]) (fun _ _ _ k => e_iload_n dX9_readArgument_0 rfl (i := 1) (x := i0) rfl (e_bipush dX9_readArgument_1 rfl (k4 rfl) k)) ?_
  refine ev_br2 (P := i0 = (-9)) (pct := 45) (pcf := 6) (st' := []) (fun _ _ _ kt kf => e_ceq dX9_readArgument_3 (tgt := 45) rfl kt kf) (fun h1 => ?_) (fun h1 => ?_)
  · exact ev_ret (e_vret dX9_readArgument_45)
  · refine ev_st (pc' := 12) (L' := [xR a, xI i0]) (st' := [xI 3, xI 0, xI (R a 8)]) (fun _ _ _ k => e_aload_n dX9_readArgument_6 rfl (i := 0) (x := a) rfl (e_geti dX9_readArgument_7 flX9_55 (kd9_0 h_a) (Or.inl rfl) (e_iconst dX9_readArgument_10 (k4 rfl) (e_iconst dX9_readArgument_11 (k4 rfl) k)))) ?_
    refine ev_callS (As := [xI (R a 8), xI 0, xI 3]) (st := []) (fun v2 => [xI (xz v2)]) dX9_readArgument_12 mlX9_145 rfl rfl rfl rfl rfl rfl (c_X9_isIn (d := d + 2) (R a 8) 0 3) (fun _ => xz01 _) (fun _ => rfl) (fun v2 => ?_)
    refine ev_br2 (P := v2 = true) (pct := 18) (pcf := 45) (st' := []) (fun _ _ _ kt kf => e_ifeqz dX9_readArgument_15 (tgt := 45) rfl kt kf) (fun h3 => ?_) (fun h3 => ?_)
    · refine ev_st (pc' := 27) (L' := [xR a, xI i0]) (st' := [xI i0, xI (R a 8), xR (a + 322)]) (fun _ _ _ k => e_aload_n dX9_readArgument_18 rfl (i := 0) (x := a) rfl (e_getr dX9_readArgument_19 flX9_52 (kd9_0 h_a) rfl (rf9_0_7 h_a) (e_aload_n dX9_readArgument_22 rfl (i := 0) (x := a) rfl (e_geti dX9_readArgument_23 flX9_55 (kd9_0 h_a) (Or.inl rfl) (e_iload_n dX9_readArgument_26 rfl (i := 1) (x := i0) rfl k))))) ?_
      refine ev_chk (fun h4 => ?_)
      refine ev_st (pc' := 28) (L' := [xR a, xI i0]) (st' := []) (fun _ _ _ k => e_iast dX9_readArgument_27 (kd9_322 h_a) h4.1 h4.2 k) ?_
      refine ev_letR (fun R5 eR5 => ?_)
      refine ev_st (pc' := 38) (L' := [xR a, xI i0]) (st' := []) (fun _ _ _ k => e_aload_n dX9_readArgument_28 rfl (i := 0) (x := a) rfl (e_dupR dX9_readArgument_29 (e_geti dX9_readArgument_30 flX9_55 (kd9_0 h_a) (Or.inl rfl) (e_iconst dX9_readArgument_33 (k4 rfl) (e_iadd dX9_readArgument_34 (e_puti dX9_readArgument_35 flX9_55 (kd9_0 h_a) (Or.inl rfl) rfl k)))))) ?_
      refine ev_letR (fun R6 eR6 => ?_)
      refine ev_st (pc' := 42) (L' := [xR a, xI i0]) (st' := [xR (a + 320)]) (fun _ _ _ k => e_aload_n dX9_readArgument_38 rfl (i := 0) (x := a) rfl (e_getr dX9_readArgument_39 flX9_48 (kd9_0 h_a) rfl (rf9_0_6 h_a) k)) ?_
      refine ev_callV (As := []) (st := []) (fun v7 => []) dX9_readArgument_42 mlX9_177 (kd9_320 h_a) rfl rfl rfl rfl rfl rfl (c_X6_advance (d := d) (sb9_320_6 h_a)) (fun _ => trivial) (fun _ => rfl) (fun v7 => ?_)
      exact ev_ret (e_vret dX9_readArgument_45)
    · exact ev_ret (e_vret dX9_readArgument_45)
def f_X9_mostNumbers (i0 : Int) (R : xN) : Option (Int) :=
  if i0 = 1 then
  some 2
  else
  if i0 = 2 then
  some 4
  else
  if i0 = 3 then
  some 0
  else
  if i0 = 4 then
  some 0
  else
  if i0 = 5 then
  some 1
  else
  if i0 = 6 then
  some 0
  else
  if i0 = 7 then
  some 1
  else
  if i0 = 8 then
  some 3
  else
  if i0 = 9 then
  some 1
  else
  some 0
set_option maxRecDepth 20000 in
set_option maxHeartbeats 4000000 in
theorem c_X9_mostNumbers {l : Launch} {g : xG} {d : Nat} {A : xA} {R : xN}  (i0 : Int) : Ev l g (d) mX9_mostNumbers 0 [xI i0] [] A R (fun v : Int => some (xI v)) (fun _ => R) (f_X9_mostNumbers i0 R) := by
  rw [f_X9_mostNumbers]
  refine ev_st (pc' := 1) (L' := [xI i0]) (st' := [xI i0]) (fun _ _ _ k => e_iload_n dX9_mostNumbers_0 rfl (i := 0) (x := i0) rfl k) ?_
  refine ev_ite (P := i0 = 1) (fun h1 => ?_) (fun h1 => ?_)
  · refine ev_st (pc' := 54) (L' := [xI i0]) (st' := []) (fun _ _ _ k => e_tin dX9_mostNumbers_1 (tgt := 54) (off := 53) (by omega) (by omega) (by rw [h1]; rfl) rfl k) ?_
    exact ev_ret (e_iconst dX9_mostNumbers_54 (k4 rfl) (e_iret dX9_mostNumbers_55))
  refine ev_ite (P := i0 = 2) (fun h2 => ?_) (fun h2 => ?_)
  · refine ev_st (pc' := 58) (L' := [xI i0]) (st' := []) (fun _ _ _ k => e_tin dX9_mostNumbers_1 (tgt := 58) (off := 57) (by omega) (by omega) (by rw [h2]; rfl) rfl k) ?_
    exact ev_ret (e_iconst dX9_mostNumbers_58 (k4 rfl) (e_iret dX9_mostNumbers_59))
  refine ev_ite (P := i0 = 3) (fun h3 => ?_) (fun h3 => ?_)
  · refine ev_st (pc' := 60) (L' := [xI i0]) (st' := []) (fun _ _ _ k => e_tin dX9_mostNumbers_1 (tgt := 60) (off := 59) (by omega) (by omega) (by rw [h3]; rfl) rfl k) ?_
    exact ev_ret (e_iconst dX9_mostNumbers_60 (k4 rfl) (e_iret dX9_mostNumbers_61))
  refine ev_ite (P := i0 = 4) (fun h4 => ?_) (fun h4 => ?_)
  · refine ev_st (pc' := 60) (L' := [xI i0]) (st' := []) (fun _ _ _ k => e_tin dX9_mostNumbers_1 (tgt := 60) (off := 59) (by omega) (by omega) (by rw [h4]; rfl) rfl k) ?_
    exact ev_ret (e_iconst dX9_mostNumbers_60 (k4 rfl) (e_iret dX9_mostNumbers_61))
  refine ev_ite (P := i0 = 5) (fun h5 => ?_) (fun h5 => ?_)
  · refine ev_st (pc' := 52) (L' := [xI i0]) (st' := []) (fun _ _ _ k => e_tin dX9_mostNumbers_1 (tgt := 52) (off := 51) (by omega) (by omega) (by rw [h5]; rfl) rfl k) ?_
    exact ev_ret (e_iconst dX9_mostNumbers_52 (k4 rfl) (e_iret dX9_mostNumbers_53))
  refine ev_ite (P := i0 = 6) (fun h6 => ?_) (fun h6 => ?_)
  · refine ev_st (pc' := 60) (L' := [xI i0]) (st' := []) (fun _ _ _ k => e_tin dX9_mostNumbers_1 (tgt := 60) (off := 59) (by omega) (by omega) (by rw [h6]; rfl) rfl k) ?_
    exact ev_ret (e_iconst dX9_mostNumbers_60 (k4 rfl) (e_iret dX9_mostNumbers_61))
  refine ev_ite (P := i0 = 7) (fun h7 => ?_) (fun h7 => ?_)
  · refine ev_st (pc' := 52) (L' := [xI i0]) (st' := []) (fun _ _ _ k => e_tin dX9_mostNumbers_1 (tgt := 52) (off := 51) (by omega) (by omega) (by rw [h7]; rfl) rfl k) ?_
    exact ev_ret (e_iconst dX9_mostNumbers_52 (k4 rfl) (e_iret dX9_mostNumbers_53))
  refine ev_ite (P := i0 = 8) (fun h8 => ?_) (fun h8 => ?_)
  · refine ev_st (pc' := 56) (L' := [xI i0]) (st' := []) (fun _ _ _ k => e_tin dX9_mostNumbers_1 (tgt := 56) (off := 55) (by omega) (by omega) (by rw [h8]; rfl) rfl k) ?_
    exact ev_ret (e_iconst dX9_mostNumbers_56 (k4 rfl) (e_iret dX9_mostNumbers_57))
  refine ev_ite (P := i0 = 9) (fun h9 => ?_) (fun h9 => ?_)
  · refine ev_st (pc' := 52) (L' := [xI i0]) (st' := []) (fun _ _ _ k => e_tin dX9_mostNumbers_1 (tgt := 52) (off := 51) (by omega) (by omega) (by rw [h9]; rfl) rfl k) ?_
    exact ev_ret (e_iconst dX9_mostNumbers_52 (k4 rfl) (e_iret dX9_mostNumbers_53))
  refine ev_st (pc' := 60) (L' := [xI i0]) (st' := []) (fun _ _ _ k => e_tout dX9_mostNumbers_1 (tgt := 60) (by omega) rfl k) ?_
  exact ev_ret (e_iconst dX9_mostNumbers_60 (k4 rfl) (e_iret dX9_mostNumbers_61))
def lp_X9_readArguments_54 (a : Nat) (p1 : Int) (p2 : Int) : Nat → Int → xN → (Int → xN → Option (xN)) → Option (xN)
  | 0, _, _, _ => none
  | n + 1, y3, R, X =>
    if p2 ≤ y3 then
    X y3 R
    else
    (f_X6_isNumber (a + 320) R).bind (fun v17 =>
    if v17 = true then
    (f_X6_numberValue (a + 320) R).bind (fun v19 =>
    (f_X9_readArgument a v19 R).bind (fun v20 =>
    xlet (w4 (y3 + 1)) (fun x21 =>
    lp_X9_readArguments_54 a p1 p2 n x21 v20 X)))
    else
    X y3 R)
def f_X9_readArguments (a : Nat) (i0 : Int) (R : xN) : Option (xN) :=
  xlet (xup R a 8 0) (fun R1 =>
  (f_J7_fill_53178 (a + 322) 4 0 R1).bind (fun v2 =>
  if i0 = 4 then
  if i0 = 6 then
  (f_X9_edgeAt (a + 320) true v2).bind (fun v5 =>
  (f_X9_readArgument a v5 v2).bind (fun v6 =>
  some v6))
  else
  (f_X9_edgeAt (a + 320) false v2).bind (fun v7 =>
  (f_X9_readArgument a v7 v2).bind (fun v8 =>
  some v8))
  else
  if i0 = 6 then
  if i0 = 6 then
  (f_X9_edgeAt (a + 320) true v2).bind (fun v11 =>
  (f_X9_readArgument a v11 v2).bind (fun v12 =>
  some v12))
  else
  (f_X9_edgeAt (a + 320) false v2).bind (fun v13 =>
  (f_X9_readArgument a v13 v2).bind (fun v14 =>
  some v14))
  else
  (f_X9_mostNumbers i0 v2).bind (fun v15 =>
  lp_X9_readArguments_54 a i0 v15 6000 0 v2 (fun z22 R23 =>
  if i0 = 8 then
  if (R23 a 8) = v15 then
  (f_X6_isWord (a + 320) 14 R23).bind (fun v26 =>
  if v26 = true then
  (f_X9_readArgument a 1 R23).bind (fun v28 =>
  some v28)
  else
  some R23)
  else
  some R23
  else
  some R23))))
set_option maxRecDepth 20000 in
set_option maxHeartbeats 4000000 in
theorem lc_X9_readArguments_54 {l : Launch} {g : xG} {d : Nat} {A : xA} {a : Nat} (h_a : sh 9 A a) (p1 : Int) (p2 : Int) {X : Int → xN → Option (xN)} (hX : ∀ (y3 : Int) (R : xN), Ev l g (d + 7) mX9_readArguments 86 [xR a, xI p1, xI p2, xU] [] A R (fun _ : xN => none) (fun v => v) (X y3 R)) (n : Nat) (y3 : Int) (R : xN) : Ev l g (d + 7) mX9_readArguments 54 [xR a, xI p1, xI p2, xI y3] [] A R (fun _ : xN => none) (fun v => v) (lp_X9_readArguments_54 a p1 p2 n y3 R X) := by
  induction n generalizing y3 R with
  | zero => exact ev_none
  | succ n ih =>
    rw [lp_X9_readArguments_54]
    refine ev_st (pc' := 56) (L' := [xR a, xI p1, xI p2, xI y3]) (st' := [xI p2, xI y3]) (fun _ _ _ k => e_iload_n dX9_readArguments_54 rfl (i := 3) (x := y3) rfl (e_iload_n dX9_readArguments_55 rfl (i := 2) (x := p2) rfl k)) ?_
    refine ev_br2 (P := p2 ≤ y3) (pct := 86) (pcf := 59) (st' := []) (fun _ _ _ kt kf => e_cge dX9_readArguments_56 (tgt := 86) rfl kt kf) (fun h16 => ?_) (fun h16 => ?_)
    · refine ev_st (pc' := 86) (L' := [xR a, xI p1, xI p2, xU]) (st' := []) (fun _ _ _ k => e_fg [3] k) ?_
      exact hX y3 R
    · refine ev_st (pc' := 63) (L' := [xR a, xI p1, xI p2, xI y3]) (st' := [xR (a + 320)]) (fun _ _ _ k => e_aload_n dX9_readArguments_59 rfl (i := 0) (x := a) rfl (e_getr dX9_readArguments_60 flX9_48 (kd9_0 h_a) rfl (rf9_0_6 h_a) k)) ?_
      refine ev_callV (As := []) (st := []) (fun v17 => [xI (xz v17)]) dX9_readArguments_63 mlX9_205 (kd9_320 h_a) rfl rfl rfl rfl rfl rfl (c_X6_isNumber (d := d + 4) (sb9_320_6 h_a)) (fun _ => xz01 _) (fun _ => rfl) (fun v17 => ?_)
      refine ev_br2 (P := v17 = true) (pct := 69) (pcf := 86) (st' := []) (fun _ _ _ kt kf => e_ifeqz dX9_readArguments_66 (tgt := 86) rfl kt kf) (fun h18 => ?_) (fun h18 => ?_)
      · refine ev_st (pc' := 74) (L' := [xR a, xI p1, xI p2, xI y3]) (st' := [xR (a + 320), xR a]) (fun _ _ _ k => e_aload_n dX9_readArguments_69 rfl (i := 0) (x := a) rfl (e_aload_n dX9_readArguments_70 rfl (i := 0) (x := a) rfl (e_getr dX9_readArguments_71 flX9_48 (kd9_0 h_a) rfl (rf9_0_6 h_a) k))) ?_
        refine ev_callV (As := []) (st := [xR a]) (fun v19 => [xI v19, xR a]) dX9_readArguments_74 mlX9_208 (kd9_320 h_a) rfl rfl rfl rfl rfl rfl (c_X6_numberValue (d := d + 4) (sb9_320_6 h_a)) (fun _ => trivial) (fun _ => rfl) (fun v19 => ?_)
        refine ev_callV (As := [xI v19]) (st := []) (fun v20 => []) dX9_readArguments_77 mlX9_199 (kd9_0 h_a) rfl rfl rfl rfl rfl rfl (c_X9_readArgument (d := d + 3) h_a v19) (fun _ => trivial) (fun _ => rfl) (fun v20 => ?_)
        refine ev_letx (fun x21 ex21 => ?_)
        refine ev_st (pc' := 83) (L' := [xR a, xI p1, xI p2, xI x21]) (st' := []) (fun _ _ _ k => e_iinc dX9_readArguments_80 (i := 3) rfl (x := y3) rfl (y := x21) ex21 (L' := [xR a, xI p1, xI p2, xI x21]) rfl k) ?_
        refine ev_st (pc' := 54) (L' := [xR a, xI p1, xI p2, xI x21]) (st' := []) (fun _ _ _ k => e_goto dX9_readArguments_83 (tgt := 54) rfl k) ?_
        exact ih x21 v20
      · refine ev_st (pc' := 86) (L' := [xR a, xI p1, xI p2, xU]) (st' := []) (fun _ _ _ k => e_fg [3] k) ?_
        exact hX y3 R
set_option maxRecDepth 20000 in
set_option maxHeartbeats 4000000 in
theorem c_X9_readArguments {l : Launch} {g : xG} {d : Nat} {A : xA} {R : xN} {a : Nat} (h_a : sh 9 A a) (i0 : Int) : Ev l g (d + 7) mX9_readArguments 0 [xR a, xI i0, xU, xU] [] A R (fun _ : xN => none) (fun v => v) (f_X9_readArguments a i0 R) := by
  rw [f_X9_readArguments]
  refine ev_st (pc' := 5) (L' := [xR a, xI i0, xU, xU]) (st' := []) (fun _ _ _ k => e_aload_n dX9_readArguments_0 rfl (i := 0) (x := a) rfl (e_iconst dX9_readArguments_1 (k4 rfl) (e_puti dX9_readArguments_2 flX9_55 (kd9_0 h_a) (Or.inl rfl) rfl k))) ?_
  refine ev_letR (fun R1 eR1 => ?_)
  refine ev_st (pc' := 10) (L' := [xR a, xI i0, xU, xU]) (st' := [xI 0, xR (a + 322)]) (fun _ _ _ k => e_aload_n dX9_readArguments_5 rfl (i := 0) (x := a) rfl (e_getr dX9_readArguments_6 flX9_52 (kd9_0 h_a) rfl (rf9_0_7 h_a) (e_iconst dX9_readArguments_9 (k4 rfl) k))) ?_
  refine ev_callS (As := [xR (a + 322), xI 0]) (st := []) (fun v2 => []) dX9_readArguments_10 mlX9_190 rfl rfl rfl rfl rfl rfl (c_J7_fill_53178 (d := d + 6) (kd9_322 h_a) 0) (fun _ => trivial) (fun _ => rfl) (fun v2 => ?_)
  refine ev_st (pc' := 15) (L' := [xR a, xI i0, xU, xU]) (st' := [xI 4, xI i0]) (fun _ _ _ k => e_iload_n dX9_readArguments_13 rfl (i := 1) (x := i0) rfl (e_iconst dX9_readArguments_14 (k4 rfl) k)) ?_
  refine ev_br2 (P := i0 = 4) (pct := 24) (pcf := 18) (st' := []) (fun _ _ _ kt kf => e_ceq dX9_readArguments_15 (tgt := 24) rfl kt kf) (fun h3 => ?_) (fun h3 => ?_)
  · refine ev_st (pc' := 32) (L' := [xR a, xI i0, xU, xU]) (st' := [xI 6, xI i0, xR (a + 320), xR a]) (fun _ _ _ k => e_aload_n dX9_readArguments_24 rfl (i := 0) (x := a) rfl (e_aload_n dX9_readArguments_25 rfl (i := 0) (x := a) rfl (e_getr dX9_readArguments_26 flX9_48 (kd9_0 h_a) rfl (rf9_0_6 h_a) (e_iload_n dX9_readArguments_29 rfl (i := 1) (x := i0) rfl (e_bipush dX9_readArguments_30 rfl (k4 rfl) k))))) ?_
    refine ev_br2 (P := i0 = 6) (pct := 35) (pcf := 39) (st' := [xR (a + 320), xR a]) (fun _ _ _ kt kf => e_cne dX9_readArguments_32 (tgt := 39) rfl kt kf) (fun h4 => ?_) (fun h4 => ?_)
    · refine ev_st (pc' := 40) (L' := [xR a, xI i0, xU, xU]) (st' := [xI 1, xR (a + 320), xR a]) (fun _ _ _ k => e_iconst dX9_readArguments_35 (k4 rfl) (e_goto dX9_readArguments_36 (tgt := 40) rfl k)) ?_
      refine ev_callS (As := [xR (a + 320), xI 1]) (st := [xR a]) (fun v5 => [xI v5, xR a]) dX9_readArguments_40 mlX9_195 rfl rfl rfl rfl rfl rfl (c_X9_edgeAt (d := d) (sb9_320_6 h_a) true) (fun _ => trivial) (fun _ => rfl) (fun v5 => ?_)
      refine ev_callV (As := [xI v5]) (st := []) (fun v6 => []) dX9_readArguments_43 mlX9_199 (kd9_0 h_a) rfl rfl rfl rfl rfl rfl (c_X9_readArgument (d := d + 3) h_a v5) (fun _ => trivial) (fun _ => rfl) (fun v6 => ?_)
      exact ev_ret (e_vret dX9_readArguments_46)
    · refine ev_st (pc' := 40) (L' := [xR a, xI i0, xU, xU]) (st' := [xI 0, xR (a + 320), xR a]) (fun _ _ _ k => e_iconst dX9_readArguments_39 (k4 rfl) k) ?_
      refine ev_callS (As := [xR (a + 320), xI 0]) (st := [xR a]) (fun v7 => [xI v7, xR a]) dX9_readArguments_40 mlX9_195 rfl rfl rfl rfl rfl rfl (c_X9_edgeAt (d := d) (sb9_320_6 h_a) false) (fun _ => trivial) (fun _ => rfl) (fun v7 => ?_)
      refine ev_callV (As := [xI v7]) (st := []) (fun v8 => []) dX9_readArguments_43 mlX9_199 (kd9_0 h_a) rfl rfl rfl rfl rfl rfl (c_X9_readArgument (d := d + 3) h_a v7) (fun _ => trivial) (fun _ => rfl) (fun v8 => ?_)
      exact ev_ret (e_vret dX9_readArguments_46)
  · refine ev_st (pc' := 21) (L' := [xR a, xI i0, xU, xU]) (st' := [xI 6, xI i0]) (fun _ _ _ k => e_iload_n dX9_readArguments_18 rfl (i := 1) (x := i0) rfl (e_bipush dX9_readArguments_19 rfl (k4 rfl) k)) ?_
    refine ev_br2 (P := i0 = 6) (pct := 24) (pcf := 47) (st' := []) (fun _ _ _ kt kf => e_cne dX9_readArguments_21 (tgt := 47) rfl kt kf) (fun h9 => ?_) (fun h9 => ?_)
    · refine ev_st (pc' := 32) (L' := [xR a, xI i0, xU, xU]) (st' := [xI 6, xI i0, xR (a + 320), xR a]) (fun _ _ _ k => e_aload_n dX9_readArguments_24 rfl (i := 0) (x := a) rfl (e_aload_n dX9_readArguments_25 rfl (i := 0) (x := a) rfl (e_getr dX9_readArguments_26 flX9_48 (kd9_0 h_a) rfl (rf9_0_6 h_a) (e_iload_n dX9_readArguments_29 rfl (i := 1) (x := i0) rfl (e_bipush dX9_readArguments_30 rfl (k4 rfl) k))))) ?_
      refine ev_br2 (P := i0 = 6) (pct := 35) (pcf := 39) (st' := [xR (a + 320), xR a]) (fun _ _ _ kt kf => e_cne dX9_readArguments_32 (tgt := 39) rfl kt kf) (fun h10 => ?_) (fun h10 => ?_)
      · refine ev_st (pc' := 40) (L' := [xR a, xI i0, xU, xU]) (st' := [xI 1, xR (a + 320), xR a]) (fun _ _ _ k => e_iconst dX9_readArguments_35 (k4 rfl) (e_goto dX9_readArguments_36 (tgt := 40) rfl k)) ?_
        refine ev_callS (As := [xR (a + 320), xI 1]) (st := [xR a]) (fun v11 => [xI v11, xR a]) dX9_readArguments_40 mlX9_195 rfl rfl rfl rfl rfl rfl (c_X9_edgeAt (d := d) (sb9_320_6 h_a) true) (fun _ => trivial) (fun _ => rfl) (fun v11 => ?_)
        refine ev_callV (As := [xI v11]) (st := []) (fun v12 => []) dX9_readArguments_43 mlX9_199 (kd9_0 h_a) rfl rfl rfl rfl rfl rfl (c_X9_readArgument (d := d + 3) h_a v11) (fun _ => trivial) (fun _ => rfl) (fun v12 => ?_)
        exact ev_ret (e_vret dX9_readArguments_46)
      · refine ev_st (pc' := 40) (L' := [xR a, xI i0, xU, xU]) (st' := [xI 0, xR (a + 320), xR a]) (fun _ _ _ k => e_iconst dX9_readArguments_39 (k4 rfl) k) ?_
        refine ev_callS (As := [xR (a + 320), xI 0]) (st := [xR a]) (fun v13 => [xI v13, xR a]) dX9_readArguments_40 mlX9_195 rfl rfl rfl rfl rfl rfl (c_X9_edgeAt (d := d) (sb9_320_6 h_a) false) (fun _ => trivial) (fun _ => rfl) (fun v13 => ?_)
        refine ev_callV (As := [xI v13]) (st := []) (fun v14 => []) dX9_readArguments_43 mlX9_199 (kd9_0 h_a) rfl rfl rfl rfl rfl rfl (c_X9_readArgument (d := d + 3) h_a v13) (fun _ => trivial) (fun _ => rfl) (fun v14 => ?_)
        exact ev_ret (e_vret dX9_readArguments_46)
    · refine ev_st (pc' := 48) (L' := [xR a, xI i0, xU, xU]) (st' := [xI i0]) (fun _ _ _ k => e_iload_n dX9_readArguments_47 rfl (i := 1) (x := i0) rfl k) ?_
      refine ev_callS (As := [xI i0]) (st := []) (fun v15 => [xI v15]) dX9_readArguments_48 mlX9_202 rfl rfl rfl rfl rfl rfl (c_X9_mostNumbers (d := d + 6) i0) (fun _ => trivial) (fun _ => rfl) (fun v15 => ?_)
      refine ev_st (pc' := 54) (L' := [xR a, xI i0, xI v15, xI 0]) (st' := []) (fun _ _ _ k => e_istore_n dX9_readArguments_51 rfl (i := 2) rfl (L' := [xR a, xI i0, xI v15, xU]) rfl (e_iconst dX9_readArguments_52 (k4 rfl) (e_istore_n dX9_readArguments_53 rfl (i := 3) rfl (L' := [xR a, xI i0, xI v15, xI 0]) rfl k))) ?_
      refine lc_X9_readArguments_54 h_a i0 v15 (fun z22 R23 => ?_) 6000 0 v2
      refine ev_st (pc' := 89) (L' := [xR a, xI i0, xI v15, xU]) (st' := [xI 8, xI i0]) (fun _ _ _ k => e_iload_n dX9_readArguments_86 rfl (i := 1) (x := i0) rfl (e_bipush dX9_readArguments_87 rfl (k4 rfl) k)) ?_
      refine ev_br2 (P := i0 = 8) (pct := 92) (pcf := 117) (st' := []) (fun _ _ _ kt kf => e_cne dX9_readArguments_89 (tgt := 117) rfl kt kf) (fun h24 => ?_) (fun h24 => ?_)
      · refine ev_st (pc' := 97) (L' := [xR a, xI i0, xI v15, xU]) (st' := [xI v15, xI (R23 a 8)]) (fun _ _ _ k => e_aload_n dX9_readArguments_92 rfl (i := 0) (x := a) rfl (e_geti dX9_readArguments_93 flX9_55 (kd9_0 h_a) (Or.inl rfl) (e_iload_n dX9_readArguments_96 rfl (i := 2) (x := v15) rfl k))) ?_
        refine ev_br2 (P := (R23 a 8) = v15) (pct := 100) (pcf := 117) (st' := []) (fun _ _ _ kt kf => e_cne dX9_readArguments_97 (tgt := 117) rfl kt kf) (fun h25 => ?_) (fun h25 => ?_)
        · refine ev_st (pc' := 106) (L' := [xR a, xI i0, xI v15, xU]) (st' := [xS 14, xR (a + 320)]) (fun _ _ _ k => e_aload_n dX9_readArguments_100 rfl (i := 0) (x := a) rfl (e_getr dX9_readArguments_101 flX9_48 (kd9_0 h_a) rfl (rf9_0_6 h_a) (e_ldcS (i := 14) (by decide) rfl dX9_readArguments_104 k))) ?_
          refine ev_callV (As := [xS 14]) (st := []) (fun v26 => [xI (xz v26)]) dX9_readArguments_106 mlX9_213 (kd9_320 h_a) rfl rfl rfl rfl rfl rfl (c_X6_isWord (d := d + 1) (sb9_320_6 h_a) 14) (fun _ => xz01 _) (fun _ => rfl) (fun v26 => ?_)
          refine ev_br2 (P := v26 = true) (pct := 112) (pcf := 117) (st' := []) (fun _ _ _ kt kf => e_ifeqz dX9_readArguments_109 (tgt := 117) rfl kt kf) (fun h27 => ?_) (fun h27 => ?_)
          · refine ev_st (pc' := 114) (L' := [xR a, xI i0, xI v15, xU]) (st' := [xI 1, xR a]) (fun _ _ _ k => e_aload_n dX9_readArguments_112 rfl (i := 0) (x := a) rfl (e_iconst dX9_readArguments_113 (k4 rfl) k)) ?_
            refine ev_callV (As := [xI 1]) (st := []) (fun v28 => []) dX9_readArguments_114 mlX9_199 (kd9_0 h_a) rfl rfl rfl rfl rfl rfl (c_X9_readArgument (d := d + 3) h_a 1) (fun _ => trivial) (fun _ => rfl) (fun v28 => ?_)
            exact ev_ret (e_vret dX9_readArguments_117)
          · exact ev_ret (e_vret dX9_readArguments_117)
        · exact ev_ret (e_vret dX9_readArguments_117)
      · exact ev_ret (e_vret dX9_readArguments_117)
def f_X9_fewestArguments (i0 : Int) (R : xN) : Option (Int) :=
  if i0 = 1 then
  some 2
  else
  if i0 = 3 then
  some 0
  else
  if i0 = 8 then
  some 3
  else
  some 1
set_option maxRecDepth 20000 in
set_option maxHeartbeats 4000000 in
theorem c_X9_fewestArguments {l : Launch} {g : xG} {d : Nat} {A : xA} {R : xN}  (i0 : Int) : Ev l g (d) mX9_fewestArguments 0 [xI i0] [] A R (fun v : Int => some (xI v)) (fun _ => R) (f_X9_fewestArguments i0 R) := by
  rw [f_X9_fewestArguments]
  refine ev_st (pc' := 1) (L' := [xI i0]) (st' := [xI i0]) (fun _ _ _ k => e_iload_n dX9_fewestArguments_0 rfl (i := 0) (x := i0) rfl k) ?_
  refine ev_ite (P := i0 = 1) (fun h1 => ?_) (fun h1 => ?_)
  · refine ev_st (pc' := 38) (L' := [xI i0]) (st' := []) (fun _ _ _ k => e_look dX9_fewestArguments_1 (tgt := 38) (off := 37) (by decide) (by rw [h1]; rfl) rfl k) ?_
    exact ev_ret (e_iconst dX9_fewestArguments_38 (k4 rfl) (e_iret dX9_fewestArguments_39))
  refine ev_ite (P := i0 = 3) (fun h2 => ?_) (fun h2 => ?_)
  · refine ev_st (pc' := 36) (L' := [xI i0]) (st' := []) (fun _ _ _ k => e_look dX9_fewestArguments_1 (tgt := 36) (off := 35) (by decide) (by rw [h2]; rfl) rfl k) ?_
    exact ev_ret (e_iconst dX9_fewestArguments_36 (k4 rfl) (e_iret dX9_fewestArguments_37))
  refine ev_ite (P := i0 = 8) (fun h3 => ?_) (fun h3 => ?_)
  · refine ev_st (pc' := 40) (L' := [xI i0]) (st' := []) (fun _ _ _ k => e_look dX9_fewestArguments_1 (tgt := 40) (off := 39) (by decide) (by rw [h3]; rfl) rfl k) ?_
    exact ev_ret (e_iconst dX9_fewestArguments_40 (k4 rfl) (e_iret dX9_fewestArguments_41))
  refine ev_st (pc' := 42) (L' := [xI i0]) (st' := []) (fun _ _ _ k => e_look dX9_fewestArguments_1 (tgt := 42) (off := 41) (by decide) (xlook h1 h2 h3) rfl k) ?_
  exact ev_ret (e_iconst dX9_fewestArguments_42 (k4 rfl) (e_iret dX9_fewestArguments_43))
def f_X9_readCommand (a : Nat) (i0 : Int) (R : xN) : Option (Int × xN) :=
  if i0 = 0 then
  some ((R (a + 320) 2), R)
  else
  (f_X6_advance (a + 320) R).bind (fun v2 =>
  (f_X9_readArguments a i0 v2).bind (fun v3 =>
  (f_X9_fewestArguments i0 v3).bind (fun v4 =>
  if (v3 a 8) < v4 then
  some ((v3 (a + 320) 2), v3)
  else
  (f_X6_isCharacter (a + 320) 59 v3).bind (fun v6 =>
  if v6 = true then
  (f_X6_advance (a + 320) v3).bind (fun v8 =>
  some ((-1), v8))
  else
  some ((v3 (a + 320) 2), v3)))))
set_option maxRecDepth 20000 in
set_option maxHeartbeats 4000000 in
theorem c_X9_readCommand {l : Launch} {g : xG} {d : Nat} {A : xA} {R : xN} {a : Nat} (h_a : sh 9 A a) (i0 : Int) : Ev l g (d + 8) mX9_readCommand 0 [xR a, xI i0] [] A R (fun v : Int × xN => some (xI v.1)) (fun v => v.2) (f_X9_readCommand a i0 R) := by
  rw [f_X9_readCommand]
  refine ev_st (pc' := 1) (L' := [xR a, xI i0]) (st' := [xI i0]) (fun _ _ _ k => e_iload_n dX9_readCommand_0 rfl (i := 1) (x := i0) rfl k) ?_
  refine ev_br2 (P := i0 = 0) (pct := 4) (pcf := 12) (st' := []) (fun _ _ _ kt kf => e_ifne dX9_readCommand_1 (tgt := 12) rfl kt kf) (fun h1 => ?_) (fun h1 => ?_)
  · exact ev_ret (e_aload_n dX9_readCommand_4 rfl (i := 0) (x := a) rfl (e_getr dX9_readCommand_5 flX9_48 (kd9_0 h_a) rfl (rf9_0_6 h_a) (e_geti dX9_readCommand_8 flX9_157 (kd9_320 h_a) (Or.inl rfl) (e_iret dX9_readCommand_11))))
  · refine ev_st (pc' := 16) (L' := [xR a, xI i0]) (st' := [xR (a + 320)]) (fun _ _ _ k => e_aload_n dX9_readCommand_12 rfl (i := 0) (x := a) rfl (e_getr dX9_readCommand_13 flX9_48 (kd9_0 h_a) rfl (rf9_0_6 h_a) k)) ?_
    refine ev_callV (As := []) (st := []) (fun v2 => []) dX9_readCommand_16 mlX9_177 (kd9_320 h_a) rfl rfl rfl rfl rfl rfl (c_X6_advance (d := d + 5) (sb9_320_6 h_a)) (fun _ => trivial) (fun _ => rfl) (fun v2 => ?_)
    refine ev_st (pc' := 21) (L' := [xR a, xI i0]) (st' := [xI i0, xR a]) (fun _ _ _ k => e_aload_n dX9_readCommand_19 rfl (i := 0) (x := a) rfl (e_iload_n dX9_readCommand_20 rfl (i := 1) (x := i0) rfl k)) ?_
    refine ev_callV (As := [xI i0]) (st := []) (fun v3 => []) dX9_readCommand_21 mlX9_180 (kd9_0 h_a) rfl rfl rfl rfl rfl rfl (c_X9_readArguments (d := d) h_a i0) (fun _ => trivial) (fun _ => rfl) (fun v3 => ?_)
    refine ev_st (pc' := 29) (L' := [xR a, xI i0]) (st' := [xI i0, xI (v3 a 8)]) (fun _ _ _ k => e_aload_n dX9_readCommand_24 rfl (i := 0) (x := a) rfl (e_geti dX9_readCommand_25 flX9_55 (kd9_0 h_a) (Or.inl rfl) (e_iload_n dX9_readCommand_28 rfl (i := 1) (x := i0) rfl k))) ?_
    refine ev_callS (As := [xI i0]) (st := [xI (v3 a 8)]) (fun v4 => [xI v4, xI (v3 a 8)]) dX9_readCommand_29 mlX9_184 rfl rfl rfl rfl rfl rfl (c_X9_fewestArguments (d := d + 7) i0) (fun _ => trivial) (fun _ => rfl) (fun v4 => ?_)
    refine ev_br2 (P := (v3 a 8) < v4) (pct := 47) (pcf := 35) (st' := []) (fun _ _ _ kt kf => e_clt dX9_readCommand_32 (tgt := 47) rfl kt kf) (fun h5 => ?_) (fun h5 => ?_)
    · exact ev_ret (e_aload_n dX9_readCommand_47 rfl (i := 0) (x := a) rfl (e_getr dX9_readCommand_48 flX9_48 (kd9_0 h_a) rfl (rf9_0_6 h_a) (e_geti dX9_readCommand_51 flX9_157 (kd9_320 h_a) (Or.inl rfl) (e_iret dX9_readCommand_54))))
    · refine ev_st (pc' := 41) (L' := [xR a, xI i0]) (st' := [xI 59, xR (a + 320)]) (fun _ _ _ k => e_aload_n dX9_readCommand_35 rfl (i := 0) (x := a) rfl (e_getr dX9_readCommand_36 flX9_48 (kd9_0 h_a) rfl (rf9_0_6 h_a) (e_bipush dX9_readCommand_39 rfl (k4 rfl) k))) ?_
      refine ev_callV (As := [xI 59]) (st := []) (fun v6 => [xI (xz v6)]) dX9_readCommand_41 mlX9_187 (kd9_320 h_a) rfl rfl rfl rfl rfl rfl (c_X6_isCharacter (d := d + 5) (sb9_320_6 h_a) 59) (fun _ => xz01 _) (fun _ => rfl) (fun v6 => ?_)
      refine ev_br2 (P := v6 = true) (pct := 55) (pcf := 47) (st' := []) (fun _ _ _ kt kf => e_ifnez dX9_readCommand_44 (tgt := 55) rfl kt kf) (fun h7 => ?_) (fun h7 => ?_)
      · refine ev_st (pc' := 59) (L' := [xR a, xI i0]) (st' := [xR (a + 320)]) (fun _ _ _ k => e_aload_n dX9_readCommand_55 rfl (i := 0) (x := a) rfl (e_getr dX9_readCommand_56 flX9_48 (kd9_0 h_a) rfl (rf9_0_6 h_a) k)) ?_
        refine ev_callV (As := []) (st := []) (fun v8 => []) dX9_readCommand_59 mlX9_177 (kd9_320 h_a) rfl rfl rfl rfl rfl rfl (c_X6_advance (d := d + 5) (sb9_320_6 h_a)) (fun _ => trivial) (fun _ => rfl) (fun v8 => ?_)
        exact ev_ret (e_iconst dX9_readCommand_62 (k4 rfl) (e_iret dX9_readCommand_63))
      · exact ev_ret (e_aload_n dX9_readCommand_47 rfl (i := 0) (x := a) rfl (e_getr dX9_readCommand_48 flX9_48 (kd9_0 h_a) rfl (rf9_0_6 h_a) (e_geti dX9_readCommand_51 flX9_157 (kd9_320 h_a) (Or.inl rfl) (e_iret dX9_readCommand_54))))
def lp_X9_obeyFolds_5 (a : Nat) (b : Nat) : Nat → Int → Int → xN → (Int → Int → xN → Option (Int × xN)) → Option (Int × xN)
  | 0, _, _, _, _ => none
  | n + 1, y2, y3, R, X =>
    if (R a 8) ≤ y3 then
    X y2 y3 R
    else
    if 4 ≤ y3 then
    X y2 y3 R
    else
    (f_X9_isError y2 R).bind (fun v3 =>
    if v3 = true then
    X y2 y3 R
    else
    if 0 ≤ y3 ∧ y3 < 4 then
    (f_X0_foldOnce b (R (a + 322) (y3).toNat) R).bind (fun v6 =>
    xlet (w4 (y3 + 1)) (fun x7 =>
    lp_X9_obeyFolds_5 a b n v6.1 x7 v6.2 X))
    else none)
def f_X9_obeyFolds (a : Nat) (b : Nat) (R : xN) : Option (Int × xN) :=
  lp_X9_obeyFolds_5 a b 6000 (-9) 0 R (fun z8 z9 R10 =>
  some (z8, R10))
set_option maxRecDepth 20000 in
set_option maxHeartbeats 4000000 in
theorem lc_X9_obeyFolds_5 {l : Launch} {g : xG} {d : Nat} {A : xA} {a : Nat} {b : Nat} (h_a : sh 9 A a) (h_b : sh 0 A b)  {X : Int → Int → xN → Option (Int × xN)} (hX : ∀ (y2 : Int) (y3 : Int) (R : xN), Ev l g (d + 4) mX9_obeyFolds 42 [xU, xU, xI y2, xU] [] A R (fun v : Int × xN => some (xI v.1)) (fun v => v.2) (X y2 y3 R)) (n : Nat) (y2 : Int) (y3 : Int) (R : xN) : Ev l g (d + 4) mX9_obeyFolds 5 [xR a, xR b, xI y2, xI y3] [] A R (fun v : Int × xN => some (xI v.1)) (fun v => v.2) (lp_X9_obeyFolds_5 a b n y2 y3 R X) := by
  induction n generalizing y2 y3 R with
  | zero => exact ev_none
  | succ n ih =>
    rw [lp_X9_obeyFolds_5]
    refine ev_st (pc' := 10) (L' := [xR a, xR b, xI y2, xI y3]) (st' := [xI (R a 8), xI y3]) (fun _ _ _ k => e_iload_n dX9_obeyFolds_5 rfl (i := 3) (x := y3) rfl (e_aload_n dX9_obeyFolds_6 rfl (i := 0) (x := a) rfl (e_geti dX9_obeyFolds_7 flX9_55 (kd9_0 h_a) (Or.inl rfl) k))) ?_
    refine ev_br2 (P := (R a 8) ≤ y3) (pct := 42) (pcf := 13) (st' := []) (fun _ _ _ kt kf => e_cge dX9_obeyFolds_10 (tgt := 42) rfl kt kf) (fun h1 => ?_) (fun h1 => ?_)
    · refine ev_st (pc' := 42) (L' := [xU, xU, xI y2, xU]) (st' := []) (fun _ _ _ k => e_fg [0, 1, 3] k) ?_
      exact hX y2 y3 R
    · refine ev_st (pc' := 15) (L' := [xR a, xR b, xI y2, xI y3]) (st' := [xI 4, xI y3]) (fun _ _ _ k => e_iload_n dX9_obeyFolds_13 rfl (i := 3) (x := y3) rfl (e_iconst dX9_obeyFolds_14 (k4 rfl) k)) ?_
      refine ev_br2 (P := 4 ≤ y3) (pct := 42) (pcf := 18) (st' := []) (fun _ _ _ kt kf => e_cge dX9_obeyFolds_15 (tgt := 42) rfl kt kf) (fun h2 => ?_) (fun h2 => ?_)
      · refine ev_st (pc' := 42) (L' := [xU, xU, xI y2, xU]) (st' := []) (fun _ _ _ k => e_fg [0, 1, 3] k) ?_
        exact hX y2 y3 R
      · refine ev_st (pc' := 19) (L' := [xR a, xR b, xI y2, xI y3]) (st' := [xI y2]) (fun _ _ _ k => e_iload_n dX9_obeyFolds_18 rfl (i := 2) (x := y2) rfl k) ?_
        refine ev_callS (As := [xI y2]) (st := []) (fun v3 => [xI (xz v3)]) dX9_obeyFolds_19 mlX9_170 rfl rfl rfl rfl rfl rfl (c_X9_isError (d := d + 2) y2) (fun _ => xz01 _) (fun _ => rfl) (fun v3 => ?_)
        refine ev_br2 (P := v3 = true) (pct := 42) (pcf := 25) (st' := []) (fun _ _ _ kt kf => e_ifnez dX9_obeyFolds_22 (tgt := 42) rfl kt kf) (fun h4 => ?_) (fun h4 => ?_)
        · refine ev_st (pc' := 42) (L' := [xU, xU, xI y2, xU]) (st' := []) (fun _ _ _ k => e_fg [0, 1, 3] k) ?_
          exact hX y2 y3 R
        · refine ev_st (pc' := 31) (L' := [xR a, xR b, xI y2, xI y3]) (st' := [xI y3, xR (a + 322), xR b]) (fun _ _ _ k => e_aload_n dX9_obeyFolds_25 rfl (i := 1) (x := b) rfl (e_aload_n dX9_obeyFolds_26 rfl (i := 0) (x := a) rfl (e_getr dX9_obeyFolds_27 flX9_52 (kd9_0 h_a) rfl (rf9_0_7 h_a) (e_iload_n dX9_obeyFolds_30 rfl (i := 3) (x := y3) rfl k)))) ?_
          refine ev_chk (fun h5 => ?_)
          refine ev_st (pc' := 32) (L' := [xR a, xR b, xI y2, xI y3]) (st' := [xI (R (a + 322) (y3).toNat), xR b]) (fun _ _ _ k => e_iald dX9_obeyFolds_31 (kd9_322 h_a) h5.1 h5.2 k) ?_
          refine ev_callV (As := [xI (R (a + 322) (y3).toNat)]) (st := []) (fun v6 => [xI v6.1]) dX9_obeyFolds_32 mlX9_76 (kd0_0 h_b) rfl rfl rfl rfl rfl rfl (c_X0_foldOnce (d := d) h_b (R (a + 322) (y3).toNat)) (fun _ => trivial) (fun _ => rfl) (fun v6 => ?_)
          refine ev_st (pc' := 36) (L' := [xR a, xR b, xI v6.1, xI y3]) (st' := []) (fun _ _ _ k => e_istore_n dX9_obeyFolds_35 rfl (i := 2) rfl (L' := [xR a, xR b, xI v6.1, xI y3]) rfl k) ?_
          refine ev_letx (fun x7 ex7 => ?_)
          refine ev_st (pc' := 39) (L' := [xR a, xR b, xI v6.1, xI x7]) (st' := []) (fun _ _ _ k => e_iinc dX9_obeyFolds_36 (i := 3) rfl (x := y3) rfl (y := x7) ex7 (L' := [xR a, xR b, xI v6.1, xI x7]) rfl k) ?_
          refine ev_st (pc' := 5) (L' := [xR a, xR b, xI v6.1, xI x7]) (st' := []) (fun _ _ _ k => e_goto dX9_obeyFolds_39 (tgt := 5) rfl k) ?_
          exact ih v6.1 x7 v6.2
set_option maxRecDepth 20000 in
set_option maxHeartbeats 4000000 in
theorem c_X9_obeyFolds {l : Launch} {g : xG} {d : Nat} {A : xA} {R : xN} {a : Nat} {b : Nat} (h_a : sh 9 A a) (h_b : sh 0 A b)  : Ev l g (d + 4) mX9_obeyFolds 0 [xR a, xR b, xU, xU] [] A R (fun v : Int × xN => some (xI v.1)) (fun v => v.2) (f_X9_obeyFolds a b R) := by
  rw [f_X9_obeyFolds]
  refine ev_st (pc' := 5) (L' := [xR a, xR b, xI (-9), xI 0]) (st' := []) (fun _ _ _ k => e_bipush dX9_obeyFolds_0 rfl (k4 rfl) (e_istore_n dX9_obeyFolds_2 rfl (i := 2) rfl (L' := [xR a, xR b, xI (-9), xU]) rfl (e_iconst dX9_obeyFolds_3 (k4 rfl) (e_istore_n dX9_obeyFolds_4 rfl (i := 3) rfl (L' := [xR a, xR b, xI (-9), xI 0]) rfl k)))) ?_
  refine lc_X9_obeyFolds_5 h_a h_b (fun z8 z9 R10 => ?_) 6000 (-9) 0 R
  exact ev_ret (e_iload_n dX9_obeyFolds_42 rfl (i := 2) (x := z8) rfl (e_iret dX9_obeyFolds_43))
def f_X9_obey (a : Nat) (i0 : Int) (R : xN) : Option (Int × xN) :=
  if i0 = 1 then
  (f_X0_takeSheet (a + 2) (R (a + 322) 0) (R (a + 322) 1) R).bind (fun v2 =>
  some (v2.1, v2.2))
  else
  if i0 = 2 then
  (f_X9_obeyFolds a (a + 2) R).bind (fun v4 =>
  some (v4.1, v4.2))
  else
  if i0 = 3 then
  (f_X0_foldBack (a + 2) R).bind (fun v6 =>
  some (v6.1, v6.2))
  else
  if i0 = 4 then
  (f_X0_moveSpine (a + 2) (R (a + 322) 0) R).bind (fun v8 =>
  some (v8.1, v8.2))
  else
  if i0 = 5 then
  (f_X0_printSheet (a + 2) (a + 311) (R (a + 322) 0) R).bind (fun v10 =>
  some (v10.1, v10.2))
  else
  if i0 = 6 then
  (f_X0_cutAlong (a + 2) (R (a + 322) 0) R).bind (fun v12 =>
  some (v12.1, v12.2))
  else
  if i0 = 7 then
  (f_X0_setStaple (a + 2) (R (a + 322) 0) R).bind (fun v14 =>
  some (v14.1, v14.2))
  else
  if i0 = 8 then
  (f_X4_put (a + 13) (R (a + 322) 0) (R (a + 322) 1) (R (a + 322) 2) (R (a + 322) 3) R).bind (fun v16 =>
  some (v16.1, v16.2))
  else
  if i0 = 9 then
  (f_X0_changeLines (a + 2) (R (a + 322) 0) R).bind (fun v18 =>
  some (v18.1, v18.2))
  else
  some ((-2), R)
set_option maxRecDepth 20000 in
set_option maxHeartbeats 4000000 in
theorem c_X9_obey {l : Launch} {g : xG} {d : Nat} {A : xA} {R : xN} {a : Nat} (h_a : sh 9 A a) (i0 : Int) : Ev l g (d + 5) mX9_obey 0 [xR a, xI i0, xU] [] A R (fun v : Int × xN => some (xI v.1)) (fun v => v.2) (f_X9_obey a i0 R) := by
  rw [f_X9_obey]
  refine ev_st (pc' := 9) (L' := [xR a, xI i0, xR (a + 2)]) (st' := [xI i0]) (fun _ _ _ k => e_aload_n dX9_obey_0 rfl (i := 0) (x := a) rfl (e_getr dX9_obey_1 flX9_10 (kd9_0 h_a) rfl (rf9_0_0 h_a) (e_getr dX9_obey_4 flX9_62 (kd9_1 h_a) rfl (rf9_1_0 h_a) (e_astore_n dX9_obey_7 rfl (i := 2) rfl (L' := [xR a, xI i0, xR (a + 2)]) rfl (e_iload_n dX9_obey_8 rfl (i := 1) (x := i0) rfl k))))) ?_
  refine ev_ite (P := i0 = 1) (fun h1 => ?_) (fun h1 => ?_)
  · refine ev_st (pc' := 60) (L' := [xR a, xI i0, xR (a + 2)]) (st' := []) (fun _ _ _ k => e_tin dX9_obey_9 (tgt := 60) (off := 51) (by omega) (by omega) (by rw [h1]; rfl) rfl k) ?_
    refine ev_st (pc' := 73) (L' := [xR a, xI i0, xR (a + 2)]) (st' := [xI (R (a + 322) 1), xI (R (a + 322) 0), xR (a + 2)]) (fun _ _ _ k => e_aload_n dX9_obey_60 rfl (i := 2) (x := (a + 2)) rfl (e_aload_n dX9_obey_61 rfl (i := 0) (x := a) rfl (e_getr dX9_obey_62 flX9_52 (kd9_0 h_a) rfl (rf9_0_7 h_a) (e_iconst dX9_obey_65 (k4 rfl) (e_iald dX9_obey_66 (kd9_322 h_a) (by decide) (by decide) (e_aload_n dX9_obey_67 rfl (i := 0) (x := a) rfl (e_getr dX9_obey_68 flX9_52 (kd9_0 h_a) rfl (rf9_0_7 h_a) (e_iconst dX9_obey_71 (k4 rfl) (e_iald dX9_obey_72 (kd9_322 h_a) (by decide) (by decide) k))))))))) ?_
    refine ev_callV (As := [xI (R (a + 322) 0), xI (R (a + 322) 1)]) (st := []) (fun v2 => [xI v2.1]) dX9_obey_73 mlX9_66 (kd9_2 h_a) rfl rfl rfl rfl rfl rfl (c_X0_takeSheet (d := d + 2) (sb9_2_0 h_a) (R (a + 322) 0) (R (a + 322) 1)) (fun _ => trivial) (fun _ => rfl) (fun v2 => ?_)
    exact ev_ret (e_iret dX9_obey_76)
  refine ev_ite (P := i0 = 2) (fun h3 => ?_) (fun h3 => ?_)
  · refine ev_st (pc' := 77) (L' := [xR a, xI i0, xR (a + 2)]) (st' := []) (fun _ _ _ k => e_tin dX9_obey_9 (tgt := 77) (off := 68) (by omega) (by omega) (by rw [h3]; rfl) rfl k) ?_
    refine ev_st (pc' := 79) (L' := [xR a, xI i0, xR (a + 2)]) (st' := [xR (a + 2), xR a]) (fun _ _ _ k => e_aload_n dX9_obey_77 rfl (i := 0) (x := a) rfl (e_aload_n dX9_obey_78 rfl (i := 2) (x := (a + 2)) rfl k)) ?_
    refine ev_callV (As := [xR (a + 2)]) (st := []) (fun v4 => [xI v4.1]) dX9_obey_79 mlX9_249 (kd9_0 h_a) rfl rfl rfl rfl rfl rfl (c_X9_obeyFolds (d := d) h_a (sb9_2_0 h_a)) (fun _ => trivial) (fun _ => rfl) (fun v4 => ?_)
    exact ev_ret (e_iret dX9_obey_82)
  refine ev_ite (P := i0 = 3) (fun h5 => ?_) (fun h5 => ?_)
  · refine ev_st (pc' := 83) (L' := [xR a, xI i0, xR (a + 2)]) (st' := []) (fun _ _ _ k => e_tin dX9_obey_9 (tgt := 83) (off := 74) (by omega) (by omega) (by rw [h5]; rfl) rfl k) ?_
    refine ev_st (pc' := 84) (L' := [xR a, xI i0, xR (a + 2)]) (st' := [xR (a + 2)]) (fun _ _ _ k => e_aload_n dX9_obey_83 rfl (i := 2) (x := (a + 2)) rfl k) ?_
    refine ev_callV (As := []) (st := []) (fun v6 => [xI v6.1]) dX9_obey_84 mlX9_79 (kd9_2 h_a) rfl rfl rfl rfl rfl rfl (c_X0_foldBack (d := d) (sb9_2_0 h_a)) (fun _ => trivial) (fun _ => rfl) (fun v6 => ?_)
    exact ev_ret (e_iret dX9_obey_87)
  refine ev_ite (P := i0 = 4) (fun h7 => ?_) (fun h7 => ?_)
  · refine ev_st (pc' := 88) (L' := [xR a, xI i0, xR (a + 2)]) (st' := []) (fun _ _ _ k => e_tin dX9_obey_9 (tgt := 88) (off := 79) (by omega) (by omega) (by rw [h7]; rfl) rfl k) ?_
    refine ev_st (pc' := 95) (L' := [xR a, xI i0, xR (a + 2)]) (st' := [xI (R (a + 322) 0), xR (a + 2)]) (fun _ _ _ k => e_aload_n dX9_obey_88 rfl (i := 2) (x := (a + 2)) rfl (e_aload_n dX9_obey_89 rfl (i := 0) (x := a) rfl (e_getr dX9_obey_90 flX9_52 (kd9_0 h_a) rfl (rf9_0_7 h_a) (e_iconst dX9_obey_93 (k4 rfl) (e_iald dX9_obey_94 (kd9_322 h_a) (by decide) (by decide) k))))) ?_
    refine ev_callV (As := [xI (R (a + 322) 0)]) (st := []) (fun v8 => [xI v8.1]) dX9_obey_95 mlX9_83 (kd9_2 h_a) rfl rfl rfl rfl rfl rfl (c_X0_moveSpine (d := d + 3) (sb9_2_0 h_a) (R (a + 322) 0)) (fun _ => trivial) (fun _ => rfl) (fun v8 => ?_)
    exact ev_ret (e_iret dX9_obey_98)
  refine ev_ite (P := i0 = 5) (fun h9 => ?_) (fun h9 => ?_)
  · refine ev_st (pc' := 99) (L' := [xR a, xI i0, xR (a + 2)]) (st' := []) (fun _ _ _ k => e_tin dX9_obey_9 (tgt := 99) (off := 90) (by omega) (by omega) (by rw [h9]; rfl) rfl k) ?_
    refine ev_st (pc' := 110) (L' := [xR a, xI i0, xR (a + 2)]) (st' := [xI (R (a + 322) 0), xR (a + 311), xR (a + 2)]) (fun _ _ _ k => e_aload_n dX9_obey_99 rfl (i := 2) (x := (a + 2)) rfl (e_aload_n dX9_obey_100 rfl (i := 0) (x := a) rfl (e_getr dX9_obey_101 flX9_26 (kd9_0 h_a) rfl (rf9_0_2 h_a) (e_aload_n dX9_obey_104 rfl (i := 0) (x := a) rfl (e_getr dX9_obey_105 flX9_52 (kd9_0 h_a) rfl (rf9_0_7 h_a) (e_iconst dX9_obey_108 (k4 rfl) (e_iald dX9_obey_109 (kd9_322 h_a) (by decide) (by decide) k))))))) ?_
    refine ev_callV (As := [xR (a + 311), xI (R (a + 322) 0)]) (st := []) (fun v10 => [xI v10.1]) dX9_obey_110 mlX9_90 (kd9_2 h_a) rfl rfl rfl rfl rfl rfl (c_X0_printSheet (d := d) (sb9_2_0 h_a) (sb9_311_3 h_a) (R (a + 322) 0)) (fun _ => trivial) (fun _ => rfl) (fun v10 => ?_)
    exact ev_ret (e_iret dX9_obey_113)
  refine ev_ite (P := i0 = 6) (fun h11 => ?_) (fun h11 => ?_)
  · refine ev_st (pc' := 114) (L' := [xR a, xI i0, xR (a + 2)]) (st' := []) (fun _ _ _ k => e_tin dX9_obey_9 (tgt := 114) (off := 105) (by omega) (by omega) (by rw [h11]; rfl) rfl k) ?_
    refine ev_st (pc' := 121) (L' := [xR a, xI i0, xR (a + 2)]) (st' := [xI (R (a + 322) 0), xR (a + 2)]) (fun _ _ _ k => e_aload_n dX9_obey_114 rfl (i := 2) (x := (a + 2)) rfl (e_aload_n dX9_obey_115 rfl (i := 0) (x := a) rfl (e_getr dX9_obey_116 flX9_52 (kd9_0 h_a) rfl (rf9_0_7 h_a) (e_iconst dX9_obey_119 (k4 rfl) (e_iald dX9_obey_120 (kd9_322 h_a) (by decide) (by decide) k))))) ?_
    refine ev_callV (As := [xI (R (a + 322) 0)]) (st := []) (fun v12 => [xI v12.1]) dX9_obey_121 mlX9_94 (kd9_2 h_a) rfl rfl rfl rfl rfl rfl (c_X0_cutAlong (d := d + 1) (sb9_2_0 h_a) (R (a + 322) 0)) (fun _ => trivial) (fun _ => rfl) (fun v12 => ?_)
    exact ev_ret (e_iret dX9_obey_124)
  refine ev_ite (P := i0 = 7) (fun h13 => ?_) (fun h13 => ?_)
  · refine ev_st (pc' := 125) (L' := [xR a, xI i0, xR (a + 2)]) (st' := []) (fun _ _ _ k => e_tin dX9_obey_9 (tgt := 125) (off := 116) (by omega) (by omega) (by rw [h13]; rfl) rfl k) ?_
    refine ev_st (pc' := 132) (L' := [xR a, xI i0, xR (a + 2)]) (st' := [xI (R (a + 322) 0), xR (a + 2)]) (fun _ _ _ k => e_aload_n dX9_obey_125 rfl (i := 2) (x := (a + 2)) rfl (e_aload_n dX9_obey_126 rfl (i := 0) (x := a) rfl (e_getr dX9_obey_127 flX9_52 (kd9_0 h_a) rfl (rf9_0_7 h_a) (e_iconst dX9_obey_130 (k4 rfl) (e_iald dX9_obey_131 (kd9_322 h_a) (by decide) (by decide) k))))) ?_
    refine ev_callV (As := [xI (R (a + 322) 0)]) (st := []) (fun v14 => [xI v14.1]) dX9_obey_132 mlX9_97 (kd9_2 h_a) rfl rfl rfl rfl rfl rfl (c_X0_setStaple (d := d + 3) (sb9_2_0 h_a) (R (a + 322) 0)) (fun _ => trivial) (fun _ => rfl) (fun v14 => ?_)
    exact ev_ret (e_iret dX9_obey_135)
  refine ev_ite (P := i0 = 8) (fun h15 => ?_) (fun h15 => ?_)
  · refine ev_st (pc' := 136) (L' := [xR a, xI i0, xR (a + 2)]) (st' := []) (fun _ _ _ k => e_tin dX9_obey_9 (tgt := 136) (off := 127) (by omega) (by omega) (by rw [h15]; rfl) rfl k) ?_
    refine ev_st (pc' := 164) (L' := [xR a, xI i0, xR (a + 2)]) (st' := [xI (R (a + 322) 3), xI (R (a + 322) 2), xI (R (a + 322) 1), xI (R (a + 322) 0), xR (a + 13)]) (fun _ _ _ k => e_aload_n dX9_obey_136 rfl (i := 2) (x := (a + 2)) rfl (e_getr dX9_obey_137 flX9_119 (kd9_2 h_a) rfl (rf9_2_3 h_a) (e_aload_n dX9_obey_140 rfl (i := 0) (x := a) rfl (e_getr dX9_obey_141 flX9_52 (kd9_0 h_a) rfl (rf9_0_7 h_a) (e_iconst dX9_obey_144 (k4 rfl) (e_iald dX9_obey_145 (kd9_322 h_a) (by decide) (by decide) (e_aload_n dX9_obey_146 rfl (i := 0) (x := a) rfl (e_getr dX9_obey_147 flX9_52 (kd9_0 h_a) rfl (rf9_0_7 h_a) (e_iconst dX9_obey_150 (k4 rfl) (e_iald dX9_obey_151 (kd9_322 h_a) (by decide) (by decide) (e_aload_n dX9_obey_152 rfl (i := 0) (x := a) rfl (e_getr dX9_obey_153 flX9_52 (kd9_0 h_a) rfl (rf9_0_7 h_a) (e_iconst dX9_obey_156 (k4 rfl) (e_iald dX9_obey_157 (kd9_322 h_a) (by decide) (by decide) (e_aload_n dX9_obey_158 rfl (i := 0) (x := a) rfl (e_getr dX9_obey_159 flX9_52 (kd9_0 h_a) rfl (rf9_0_7 h_a) (e_iconst dX9_obey_162 (k4 rfl) (e_iald dX9_obey_163 (kd9_322 h_a) (by decide) (by decide) k)))))))))))))))))) ?_
    refine ev_callV (As := [xI (R (a + 322) 0), xI (R (a + 322) 1), xI (R (a + 322) 2), xI (R (a + 322) 3)]) (st := []) (fun v16 => [xI v16.1]) dX9_obey_164 mlX9_123 (kd9_13 h_a) rfl rfl rfl rfl rfl rfl (c_X4_put (d := d + 3) (sb9_13_4 h_a) (R (a + 322) 0) (R (a + 322) 1) (R (a + 322) 2) (R (a + 322) 3)) (fun _ => trivial) (fun _ => rfl) (fun v16 => ?_)
    exact ev_ret (e_iret dX9_obey_167)
  refine ev_ite (P := i0 = 9) (fun h17 => ?_) (fun h17 => ?_)
  · refine ev_st (pc' := 168) (L' := [xR a, xI i0, xR (a + 2)]) (st' := []) (fun _ _ _ k => e_tin dX9_obey_9 (tgt := 168) (off := 159) (by omega) (by omega) (by rw [h17]; rfl) rfl k) ?_
    refine ev_st (pc' := 175) (L' := [xR a, xI i0, xR (a + 2)]) (st' := [xI (R (a + 322) 0), xR (a + 2)]) (fun _ _ _ k => e_aload_n dX9_obey_168 rfl (i := 2) (x := (a + 2)) rfl (e_aload_n dX9_obey_169 rfl (i := 0) (x := a) rfl (e_getr dX9_obey_170 flX9_52 (kd9_0 h_a) rfl (rf9_0_7 h_a) (e_iconst dX9_obey_173 (k4 rfl) (e_iald dX9_obey_174 (kd9_322 h_a) (by decide) (by decide) k))))) ?_
    refine ev_callV (As := [xI (R (a + 322) 0)]) (st := []) (fun v18 => [xI v18.1]) dX9_obey_175 mlX9_132 (kd9_2 h_a) rfl rfl rfl rfl rfl rfl (c_X0_changeLines (d := d + 3) (sb9_2_0 h_a) (R (a + 322) 0)) (fun _ => trivial) (fun _ => rfl) (fun v18 => ?_)
    exact ev_ret (e_iret dX9_obey_178)
  refine ev_st (pc' := 179) (L' := [xR a, xI i0, xR (a + 2)]) (st' := []) (fun _ _ _ k => e_tout dX9_obey_9 (tgt := 179) (by omega) rfl k) ?_
  exact ev_ret (e_bipush dX9_obey_179 rfl (k4 rfl) (e_iret dX9_obey_181))
def lp_X9_run_28 (a : Nat) : Nat → Int → xN → (Int → xN → Option (Int × xN)) → Option (Int × xN)
  | 0, _, _, _ => none
  | n + 1, y1, R, X =>
    if 120 < y1 then
    X y1 R
    else
    (f_X6_hasToken (a + 320) R).bind (fun v4 =>
    if v4 = true then
    xlet (R (a + 320) 2) (fun x6 =>
    (f_X9_commandAt (a + 320) R).bind (fun v7 =>
    (f_X9_readCommand a v7 R).bind (fun v8 =>
    if v8.1 = (-1) then
    (f_X9_obey a v7 v8.2).bind (fun v10 =>
    (f_X9_isError v10.1 v10.2).bind (fun v11 =>
    if v11 = true then
    if x6 = (-1) then
    xlet (w4 (y1 + 1)) (fun x14 =>
    lp_X9_run_28 a n x14 v10.2 X)
    else
    (f_X1_bringBack (a + 45) (a + 1) v10.2).bind (fun v15 =>
    some ((w4 ((-1000) - x6)), v15))
    else
    if v8.1 = (-1) then
    xlet (w4 (y1 + 1)) (fun x17 =>
    lp_X9_run_28 a n x17 v10.2 X)
    else
    (f_X1_bringBack (a + 45) (a + 1) v10.2).bind (fun v18 =>
    some ((w4 ((-1000) - v8.1)), v18))))
    else
    if v8.1 = (-1) then
    xlet (w4 (y1 + 1)) (fun x20 =>
    lp_X9_run_28 a n x20 v8.2 X)
    else
    (f_X1_bringBack (a + 45) (a + 1) v8.2).bind (fun v21 =>
    some ((w4 ((-1000) - v8.1)), v21)))))
    else
    X y1 R)
def f_X9_run (a : Nat) (R : xN) : Option (Int × xN) :=
  (f_X1_keep (a + 45) (a + 1) R).bind (fun v1 =>
  (f_X6_start (a + 320) (a + 319) 120 (v1 a 5) v1).bind (fun v2 =>
  lp_X9_run_28 a 6000 0 v2 (fun z22 R23 =>
  xlet (xup R23 a 5 0) (fun R24 =>
  (f_X1_settle (a + 45) z22 R24).bind (fun v25 =>
  some (v25.1, v25.2))))))
set_option maxRecDepth 20000 in
set_option maxHeartbeats 4000000 in
theorem lc_X9_run_28 {l : Launch} {g : xG} {d : Nat} {A : xA} {a : Nat} (h_a : sh 9 A a)  {X : Int → xN → Option (Int × xN)} (hX : ∀ (y1 : Int) (R : xN), Ev l g (d + 9) mX9_run 117 [xR a, xI y1, xU, xU, xU] [] A R (fun v : Int × xN => some (xI v.1)) (fun v => v.2) (X y1 R)) (n : Nat) (y1 : Int) (R : xN) : Ev l g (d + 9) mX9_run 28 [xR a, xI y1, xU, xU, xU] [] A R (fun v : Int × xN => some (xI v.1)) (fun v => v.2) (lp_X9_run_28 a n y1 R X) := by
  induction n generalizing y1 R with
  | zero => exact ev_none
  | succ n ih =>
    rw [lp_X9_run_28]
    refine ev_st (pc' := 31) (L' := [xR a, xI y1, xU, xU, xU]) (st' := [xI 120, xI y1]) (fun _ _ _ k => e_iload_n dX9_run_28 rfl (i := 1) (x := y1) rfl (e_bipush dX9_run_29 rfl (k4 rfl) k)) ?_
    refine ev_br2 (P := 120 < y1) (pct := 117) (pcf := 34) (st' := []) (fun _ _ _ kt kf => e_cgt dX9_run_31 (tgt := 117) rfl kt kf) (fun h3 => ?_) (fun h3 => ?_)
    · exact hX y1 R
    · refine ev_st (pc' := 38) (L' := [xR a, xI y1, xU, xU, xU]) (st' := [xR (a + 320)]) (fun _ _ _ k => e_aload_n dX9_run_34 rfl (i := 0) (x := a) rfl (e_getr dX9_run_35 flX9_48 (kd9_0 h_a) rfl (rf9_0_6 h_a) k)) ?_
      refine ev_callV (As := []) (st := []) (fun v4 => [xI (xz v4)]) dX9_run_38 mlX9_153 (kd9_320 h_a) rfl rfl rfl rfl rfl rfl (c_X6_hasToken (d := d + 8) (sb9_320_6 h_a)) (fun _ => xz01 _) (fun _ => rfl) (fun v4 => ?_)
      refine ev_br2 (P := v4 = true) (pct := 44) (pcf := 117) (st' := []) (fun _ _ _ kt kf => e_ifeqz dX9_run_41 (tgt := 117) rfl kt kf) (fun h5 => ?_) (fun h5 => ?_)
      · refine ev_st (pc' := 51) (L' := [xR a, xI y1, xU, xU, xU]) (st' := [xI (R (a + 320) 2)]) (fun _ _ _ k => e_aload_n dX9_run_44 rfl (i := 0) (x := a) rfl (e_getr dX9_run_45 flX9_48 (kd9_0 h_a) rfl (rf9_0_6 h_a) (e_geti dX9_run_48 flX9_157 (kd9_320 h_a) (Or.inl rfl) k))) ?_
        refine ev_leti (fun x6 ex6 => ?_)
        refine ev_st (pc' := 52) (L' := [xR a, xI y1, xI x6, xU, xU]) (st' := []) (fun _ _ _ k => e_istore_n dX9_run_51 rfl (i := 2) rfl (L' := [xR a, xI y1, xI x6, xU, xU]) rfl k) ?_
        refine ev_st (pc' := 56) (L' := [xR a, xI y1, xI x6, xU, xU]) (st' := [xR (a + 320)]) (fun _ _ _ k => e_aload_n dX9_run_52 rfl (i := 0) (x := a) rfl (e_getr dX9_run_53 flX9_48 (kd9_0 h_a) rfl (rf9_0_6 h_a) k)) ?_
        refine ev_callS (As := [xR (a + 320)]) (st := []) (fun v7 => [xI v7]) dX9_run_56 mlX9_160 rfl rfl rfl rfl rfl rfl (c_X9_commandAt (d := d + 2) (sb9_320_6 h_a)) (fun _ => trivial) (fun _ => rfl) (fun v7 => ?_)
        refine ev_st (pc' := 62) (L' := [xR a, xI y1, xI x6, xI v7, xU]) (st' := [xI v7, xR a]) (fun _ _ _ k => e_istore_n dX9_run_59 rfl (i := 3) rfl (L' := [xR a, xI y1, xI x6, xI v7, xU]) rfl (e_aload_n dX9_run_60 rfl (i := 0) (x := a) rfl (e_iload_n dX9_run_61 rfl (i := 3) (x := v7) rfl k))) ?_
        refine ev_callV (As := [xI v7]) (st := []) (fun v8 => [xI v8.1]) dX9_run_62 mlX9_164 (kd9_0 h_a) rfl rfl rfl rfl rfl rfl (c_X9_readCommand (d := d) h_a v7) (fun _ => trivial) (fun _ => rfl) (fun v8 => ?_)
        refine ev_st (pc' := 70) (L' := [xR a, xI y1, xI x6, xI v7, xI v8.1]) (st' := [xI (-1), xI v8.1]) (fun _ _ _ k => e_istore dX9_run_65 (i := 4) rfl (L' := [xR a, xI y1, xI x6, xI v7, xI v8.1]) rfl (e_iload dX9_run_67 (i := 4) (x := v8.1) rfl (e_iconst dX9_run_69 (k4 rfl) k))) ?_
        refine ev_br2 (P := v8.1 = (-1)) (pct := 73) (pcf := 87) (st' := []) (fun _ _ _ kt kf => e_cne dX9_run_70 (tgt := 87) rfl kt kf) (fun h9 => ?_) (fun h9 => ?_)
        · refine ev_st (pc' := 75) (L' := [xR a, xI y1, xI x6, xI v7, xI v8.1]) (st' := [xI v7, xR a]) (fun _ _ _ k => e_aload_n dX9_run_73 rfl (i := 0) (x := a) rfl (e_iload_n dX9_run_74 rfl (i := 3) (x := v7) rfl k)) ?_
          refine ev_callV (As := [xI v7]) (st := []) (fun v10 => [xI v10.1]) dX9_run_75 mlX9_167 (kd9_0 h_a) rfl rfl rfl rfl rfl rfl (c_X9_obey (d := d + 3) h_a v7) (fun _ => trivial) (fun _ => rfl) (fun v10 => ?_)
          refine ev_callS (As := [xI v10.1]) (st := []) (fun v11 => [xI (xz v11)]) dX9_run_78 mlX9_170 rfl rfl rfl rfl rfl rfl (c_X9_isError (d := d + 7) v10.1) (fun _ => xz01 _) (fun _ => rfl) (fun v11 => ?_)
          refine ev_br2 (P := v11 = true) (pct := 84) (pcf := 87) (st' := []) (fun _ _ _ kt kf => e_ifeqz dX9_run_81 (tgt := 87) rfl kt kf) (fun h12 => ?_) (fun h12 => ?_)
          · refine ev_st (pc' := 90) (L' := [xR a, xI y1, xI x6, xI v7, xI x6]) (st' := [xI (-1), xI x6]) (fun _ _ _ k => e_iload_n dX9_run_84 rfl (i := 2) (x := x6) rfl (e_istore dX9_run_85 (i := 4) rfl (L' := [xR a, xI y1, xI x6, xI v7, xI x6]) rfl (e_iload dX9_run_87 (i := 4) (x := x6) rfl (e_iconst dX9_run_89 (k4 rfl) k)))) ?_
            refine ev_br2 (P := x6 = (-1)) (pct := 111) (pcf := 93) (st' := []) (fun _ _ _ kt kf => e_ceq dX9_run_90 (tgt := 111) rfl kt kf) (fun h13 => ?_) (fun h13 => ?_)
            · refine ev_letx (fun x14 ex14 => ?_)
              refine ev_st (pc' := 114) (L' := [xR a, xI x14, xI x6, xI v7, xI x6]) (st' := []) (fun _ _ _ k => e_iinc dX9_run_111 (i := 1) rfl (x := y1) rfl (y := x14) ex14 (L' := [xR a, xI x14, xI x6, xI v7, xI x6]) rfl k) ?_
              refine ev_st (pc' := 28) (L' := [xR a, xI x14, xU, xU, xU]) (st' := []) (fun _ _ _ k => e_goto dX9_run_114 (tgt := 28) rfl (e_fg [2, 3, 4] k)) ?_
              exact ih x14 v10.2
            · refine ev_st (pc' := 101) (L' := [xR a, xI y1, xI x6, xI v7, xI x6]) (st' := [xR (a + 1), xR (a + 45)]) (fun _ _ _ k => e_aload_n dX9_run_93 rfl (i := 0) (x := a) rfl (e_getr dX9_run_94 flX9_19 (kd9_0 h_a) rfl (rf9_0_1 h_a) (e_aload_n dX9_run_97 rfl (i := 0) (x := a) rfl (e_getr dX9_run_98 flX9_10 (kd9_0 h_a) rfl (rf9_0_0 h_a) k)))) ?_
              refine ev_callV (As := [xR (a + 1)]) (st := []) (fun v15 => []) dX9_run_101 mlX9_174 (kd9_45 h_a) rfl rfl rfl rfl rfl rfl (c_X1_bringBack (d := d + 4) (sb9_45_1 h_a) (sb9_1_8 h_a)) (fun _ => trivial) (fun _ => rfl) (fun v15 => ?_)
              exact ev_ret (e_sipush dX9_run_104 rfl (k4 rfl) (e_iload dX9_run_107 (i := 4) (x := x6) rfl (e_isub dX9_run_109 (e_iret dX9_run_110))))
          · refine ev_st (pc' := 90) (L' := [xR a, xI y1, xI x6, xI v7, xI v8.1]) (st' := [xI (-1), xI v8.1]) (fun _ _ _ k => e_iload dX9_run_87 (i := 4) (x := v8.1) rfl (e_iconst dX9_run_89 (k4 rfl) k)) ?_
            refine ev_br2 (P := v8.1 = (-1)) (pct := 111) (pcf := 93) (st' := []) (fun _ _ _ kt kf => e_ceq dX9_run_90 (tgt := 111) rfl kt kf) (fun h16 => ?_) (fun h16 => ?_)
            · refine ev_letx (fun x17 ex17 => ?_)
              refine ev_st (pc' := 114) (L' := [xR a, xI x17, xI x6, xI v7, xI v8.1]) (st' := []) (fun _ _ _ k => e_iinc dX9_run_111 (i := 1) rfl (x := y1) rfl (y := x17) ex17 (L' := [xR a, xI x17, xI x6, xI v7, xI v8.1]) rfl k) ?_
              refine ev_st (pc' := 28) (L' := [xR a, xI x17, xU, xU, xU]) (st' := []) (fun _ _ _ k => e_goto dX9_run_114 (tgt := 28) rfl (e_fg [2, 3, 4] k)) ?_
              exact ih x17 v10.2
            · refine ev_st (pc' := 101) (L' := [xR a, xI y1, xI x6, xI v7, xI v8.1]) (st' := [xR (a + 1), xR (a + 45)]) (fun _ _ _ k => e_aload_n dX9_run_93 rfl (i := 0) (x := a) rfl (e_getr dX9_run_94 flX9_19 (kd9_0 h_a) rfl (rf9_0_1 h_a) (e_aload_n dX9_run_97 rfl (i := 0) (x := a) rfl (e_getr dX9_run_98 flX9_10 (kd9_0 h_a) rfl (rf9_0_0 h_a) k)))) ?_
              refine ev_callV (As := [xR (a + 1)]) (st := []) (fun v18 => []) dX9_run_101 mlX9_174 (kd9_45 h_a) rfl rfl rfl rfl rfl rfl (c_X1_bringBack (d := d + 4) (sb9_45_1 h_a) (sb9_1_8 h_a)) (fun _ => trivial) (fun _ => rfl) (fun v18 => ?_)
              exact ev_ret (e_sipush dX9_run_104 rfl (k4 rfl) (e_iload dX9_run_107 (i := 4) (x := v8.1) rfl (e_isub dX9_run_109 (e_iret dX9_run_110))))
        · refine ev_st (pc' := 90) (L' := [xR a, xI y1, xI x6, xI v7, xI v8.1]) (st' := [xI (-1), xI v8.1]) (fun _ _ _ k => e_iload dX9_run_87 (i := 4) (x := v8.1) rfl (e_iconst dX9_run_89 (k4 rfl) k)) ?_
          refine ev_br2 (P := v8.1 = (-1)) (pct := 111) (pcf := 93) (st' := []) (fun _ _ _ kt kf => e_ceq dX9_run_90 (tgt := 111) rfl kt kf) (fun h19 => ?_) (fun h19 => ?_)
          · refine ev_letx (fun x20 ex20 => ?_)
            refine ev_st (pc' := 114) (L' := [xR a, xI x20, xI x6, xI v7, xI v8.1]) (st' := []) (fun _ _ _ k => e_iinc dX9_run_111 (i := 1) rfl (x := y1) rfl (y := x20) ex20 (L' := [xR a, xI x20, xI x6, xI v7, xI v8.1]) rfl k) ?_
            refine ev_st (pc' := 28) (L' := [xR a, xI x20, xU, xU, xU]) (st' := []) (fun _ _ _ k => e_goto dX9_run_114 (tgt := 28) rfl (e_fg [2, 3, 4] k)) ?_
            exact ih x20 v8.2
          · refine ev_st (pc' := 101) (L' := [xR a, xI y1, xI x6, xI v7, xI v8.1]) (st' := [xR (a + 1), xR (a + 45)]) (fun _ _ _ k => e_aload_n dX9_run_93 rfl (i := 0) (x := a) rfl (e_getr dX9_run_94 flX9_19 (kd9_0 h_a) rfl (rf9_0_1 h_a) (e_aload_n dX9_run_97 rfl (i := 0) (x := a) rfl (e_getr dX9_run_98 flX9_10 (kd9_0 h_a) rfl (rf9_0_0 h_a) k)))) ?_
            refine ev_callV (As := [xR (a + 1)]) (st := []) (fun v21 => []) dX9_run_101 mlX9_174 (kd9_45 h_a) rfl rfl rfl rfl rfl rfl (c_X1_bringBack (d := d + 4) (sb9_45_1 h_a) (sb9_1_8 h_a)) (fun _ => trivial) (fun _ => rfl) (fun v21 => ?_)
            exact ev_ret (e_sipush dX9_run_104 rfl (k4 rfl) (e_iload dX9_run_107 (i := 4) (x := v8.1) rfl (e_isub dX9_run_109 (e_iret dX9_run_110))))
      · exact hX y1 R
set_option maxRecDepth 20000 in
set_option maxHeartbeats 4000000 in
theorem c_X9_run {l : Launch} {g : xG} {d : Nat} {A : xA} {R : xN} {a : Nat} (h_a : sh 9 A a)  : Ev l g (d + 9) mX9_run 0 [xR a, xU, xU, xU, xU] [] A R (fun v : Int × xN => some (xI v.1)) (fun v => v.2) (f_X9_run a R) := by
  rw [f_X9_run]
  refine ev_st (pc' := 8) (L' := [xR a, xU, xU, xU, xU]) (st' := [xR (a + 1), xR (a + 45)]) (fun _ _ _ k => e_aload_n dX9_run_0 rfl (i := 0) (x := a) rfl (e_getr dX9_run_1 flX9_19 (kd9_0 h_a) rfl (rf9_0_1 h_a) (e_aload_n dX9_run_4 rfl (i := 0) (x := a) rfl (e_getr dX9_run_5 flX9_10 (kd9_0 h_a) rfl (rf9_0_0 h_a) k)))) ?_
  refine ev_callV (As := [xR (a + 1)]) (st := []) (fun v1 => []) dX9_run_8 mlX9_58 (kd9_45 h_a) rfl rfl rfl rfl rfl rfl (c_X1_keep (d := d + 4) (sb9_45_1 h_a) (sb9_1_8 h_a)) (fun _ => trivial) (fun _ => rfl) (fun v1 => ?_)
  refine ev_st (pc' := 23) (L' := [xR a, xU, xU, xU, xU]) (st' := [xI (v1 a 5), xR (a + 319), xR (a + 320)]) (fun _ _ _ k => e_aload_n dX9_run_11 rfl (i := 0) (x := a) rfl (e_getr dX9_run_12 flX9_48 (kd9_0 h_a) rfl (rf9_0_6 h_a) (e_aload_n dX9_run_15 rfl (i := 0) (x := a) rfl (e_getr dX9_run_16 flX9_37 (kd9_0 h_a) rfl (rf9_0_4 h_a) (e_aload_n dX9_run_19 rfl (i := 0) (x := a) rfl (e_geti dX9_run_20 flX9_41 (kd9_0 h_a) (Or.inl rfl) k)))))) ?_
  refine ev_callV (As := [xR (a + 319), xI (v1 a 5)]) (st := []) (fun v2 => []) dX9_run_23 mlX9_149 (kd9_320 h_a) rfl rfl rfl rfl rfl rfl (c_X6_start (d := d + 5) (sb9_320_6 h_a) (kd9_319 h_a) (v1 a 5)) (fun _ => trivial) (fun _ => rfl) (fun v2 => ?_)
  refine ev_st (pc' := 28) (L' := [xR a, xI 0, xU, xU, xU]) (st' := []) (fun _ _ _ k => e_iconst dX9_run_26 (k4 rfl) (e_istore_n dX9_run_27 rfl (i := 1) rfl (L' := [xR a, xI 0, xU, xU, xU]) rfl k)) ?_
  refine lc_X9_run_28 h_a (fun z22 R23 => ?_) 6000 0 v2
  refine ev_st (pc' := 122) (L' := [xR a, xI z22, xU, xU, xU]) (st' := []) (fun _ _ _ k => e_aload_n dX9_run_117 rfl (i := 0) (x := a) rfl (e_iconst dX9_run_118 (k4 rfl) (e_puti dX9_run_119 flX9_41 (kd9_0 h_a) (Or.inl rfl) rfl k))) ?_
  refine ev_letR (fun R24 eR24 => ?_)
  refine ev_st (pc' := 127) (L' := [xR a, xI z22, xU, xU, xU]) (st' := [xI z22, xR (a + 45)]) (fun _ _ _ k => e_aload_n dX9_run_122 rfl (i := 0) (x := a) rfl (e_getr dX9_run_123 flX9_19 (kd9_0 h_a) rfl (rf9_0_1 h_a) (e_iload_n dX9_run_126 rfl (i := 1) (x := z22) rfl k))) ?_
  refine ev_callV (As := [xI z22]) (st := []) (fun v25 => [xI v25.1]) dX9_run_127 mlX9_72 (kd9_45 h_a) rfl rfl rfl rfl rfl rfl (c_X1_settle (d := d + 6) (sb9_45_1 h_a) z22) (fun _ => trivial) (fun _ => rfl) (fun v25 => ?_)
  exact ev_ret (e_iret dX9_run_130)
def f_X9_count (a : Nat) (i0 : Int) (R : xN) : Option (Int) :=
  if i0 = 0 then
  some (R (a + 3) 0)
  else
  if i0 = 1 then
  some (R (a + 3) 1)
  else
  if i0 = 2 then
  some (R (a + 6) 5)
  else
  if i0 = 3 then
  (f_X3_depth (a + 6) R).bind (fun v5 =>
  some v5)
  else
  if i0 = 4 then
  some (R (a + 6) 4)
  else
  if i0 = 5 then
  (f_X3_isBooklet (a + 6) R).bind (fun v8 =>
  (f_X9_asNumber v8 R).bind (fun v9 =>
  some v9))
  else
  if i0 = 6 then
  some (R (a + 2) 6)
  else
  if i0 = 7 then
  (f_J6_bitCount_0f7a4 (R (a + 2) 7) R).bind (fun v12 =>
  some v12)
  else
  if i0 = 8 then
  some (R (a + 9) 3)
  else
  if i0 = 9 then
  some (R (a + 13) 1)
  else
  if i0 = 10 then
  (f_J6_bitCount_0f7a4 (R (a + 1) 2) R).bind (fun v16 =>
  some v16)
  else
  if i0 = 11 then
  some (R (a + 45) 1)
  else
  if i0 = 12 then
  some (R a 5)
  else
  if i0 = 13 then
  some (R (a + 2) 9)
  else
  if i0 = 14 then
  some (R (a + 2) 8)
  else
  if i0 = 15 then
  some (R (a + 2) 5)
  else
  some (-1)
set_option maxRecDepth 20000 in
set_option maxHeartbeats 4000000 in
theorem c_X9_count {l : Launch} {g : xG} {d : Nat} {A : xA} {R : xN} {a : Nat} (h_a : sh 9 A a) (i0 : Int) : Ev l g (d + 1) mX9_count 0 [xR a, xI i0, xU] [] A R (fun v : Int => some (xI v)) (fun _ => R) (f_X9_count a i0 R) := by
  rw [f_X9_count]
  refine ev_st (pc' := 9) (L' := [xR a, xI i0, xR (a + 2)]) (st' := [xI i0]) (fun _ _ _ k => e_aload_n dX9_count_0 rfl (i := 0) (x := a) rfl (e_getr dX9_count_1 flX9_10 (kd9_0 h_a) rfl (rf9_0_0 h_a) (e_getr dX9_count_4 flX9_62 (kd9_1 h_a) rfl (rf9_1_0 h_a) (e_astore_n dX9_count_7 rfl (i := 2) rfl (L' := [xR a, xI i0, xR (a + 2)]) rfl (e_iload_n dX9_count_8 rfl (i := 1) (x := i0) rfl k))))) ?_
  refine ev_ite (P := i0 = 0) (fun h1 => ?_) (fun h1 => ?_)
  · refine ev_st (pc' := 88) (L' := [xR a, xI i0, xR (a + 2)]) (st' := []) (fun _ _ _ k => e_tin dX9_count_9 (tgt := 88) (off := 79) (by omega) (by omega) (by rw [h1]; rfl) rfl k) ?_
    exact ev_ret (e_aload_n dX9_count_88 rfl (i := 2) (x := (a + 2)) rfl (e_getr dX9_count_89 flX9_253 (kd9_2 h_a) rfl (rf9_2_0 h_a) (e_geti dX9_count_92 flX9_257 (kd9_3 h_a) (Or.inl rfl) (e_iret dX9_count_95))))
  refine ev_ite (P := i0 = 1) (fun h2 => ?_) (fun h2 => ?_)
  · refine ev_st (pc' := 96) (L' := [xR a, xI i0, xR (a + 2)]) (st' := []) (fun _ _ _ k => e_tin dX9_count_9 (tgt := 96) (off := 87) (by omega) (by omega) (by rw [h2]; rfl) rfl k) ?_
    exact ev_ret (e_aload_n dX9_count_96 rfl (i := 2) (x := (a + 2)) rfl (e_getr dX9_count_97 flX9_253 (kd9_2 h_a) rfl (rf9_2_0 h_a) (e_geti dX9_count_100 flX9_262 (kd9_3 h_a) (Or.inl rfl) (e_iret dX9_count_103))))
  refine ev_ite (P := i0 = 2) (fun h3 => ?_) (fun h3 => ?_)
  · refine ev_st (pc' := 104) (L' := [xR a, xI i0, xR (a + 2)]) (st' := []) (fun _ _ _ k => e_tin dX9_count_9 (tgt := 104) (off := 95) (by omega) (by omega) (by rw [h3]; rfl) rfl k) ?_
    exact ev_ret (e_aload_n dX9_count_104 rfl (i := 2) (x := (a + 2)) rfl (e_getr dX9_count_105 flX9_265 (kd9_2 h_a) rfl (rf9_2_1 h_a) (e_geti dX9_count_108 flX9_268 (kd9_6 h_a) (Or.inl rfl) (e_iret dX9_count_111))))
  refine ev_ite (P := i0 = 3) (fun h4 => ?_) (fun h4 => ?_)
  · refine ev_st (pc' := 112) (L' := [xR a, xI i0, xR (a + 2)]) (st' := []) (fun _ _ _ k => e_tin dX9_count_9 (tgt := 112) (off := 103) (by omega) (by omega) (by rw [h4]; rfl) rfl k) ?_
    refine ev_st (pc' := 116) (L' := [xR a, xI i0, xR (a + 2)]) (st' := [xR (a + 6)]) (fun _ _ _ k => e_aload_n dX9_count_112 rfl (i := 2) (x := (a + 2)) rfl (e_getr dX9_count_113 flX9_265 (kd9_2 h_a) rfl (rf9_2_1 h_a) k)) ?_
    refine ev_callV (As := []) (st := []) (fun v5 => [xI v5]) dX9_count_116 mlX9_271 (kd9_6 h_a) rfl rfl rfl rfl rfl rfl (c_X3_depth (d := d) (sb9_6_3 h_a)) (fun _ => trivial) (fun _ => rfl) (fun v5 => ?_)
    exact ev_ret (e_iret dX9_count_119)
  refine ev_ite (P := i0 = 4) (fun h6 => ?_) (fun h6 => ?_)
  · refine ev_st (pc' := 120) (L' := [xR a, xI i0, xR (a + 2)]) (st' := []) (fun _ _ _ k => e_tin dX9_count_9 (tgt := 120) (off := 111) (by omega) (by omega) (by rw [h6]; rfl) rfl k) ?_
    exact ev_ret (e_aload_n dX9_count_120 rfl (i := 2) (x := (a + 2)) rfl (e_getr dX9_count_121 flX9_265 (kd9_2 h_a) rfl (rf9_2_1 h_a) (e_geti dX9_count_124 flX9_274 (kd9_6 h_a) (Or.inl rfl) (e_iret dX9_count_127))))
  refine ev_ite (P := i0 = 5) (fun h7 => ?_) (fun h7 => ?_)
  · refine ev_st (pc' := 128) (L' := [xR a, xI i0, xR (a + 2)]) (st' := []) (fun _ _ _ k => e_tin dX9_count_9 (tgt := 128) (off := 119) (by omega) (by omega) (by rw [h7]; rfl) rfl k) ?_
    refine ev_st (pc' := 132) (L' := [xR a, xI i0, xR (a + 2)]) (st' := [xR (a + 6)]) (fun _ _ _ k => e_aload_n dX9_count_128 rfl (i := 2) (x := (a + 2)) rfl (e_getr dX9_count_129 flX9_265 (kd9_2 h_a) rfl (rf9_2_1 h_a) k)) ?_
    refine ev_callV (As := []) (st := []) (fun v8 => [xI (xz v8)]) dX9_count_132 mlX9_277 (kd9_6 h_a) rfl rfl rfl rfl rfl rfl (c_X3_isBooklet (d := d) (sb9_6_3 h_a)) (fun _ => xz01 _) (fun _ => rfl) (fun v8 => ?_)
    refine ev_callS (As := [xI (xz v8)]) (st := []) (fun v9 => [xI v9]) dX9_count_135 mlX9_280 rfl rfl rfl rfl rfl rfl (c_X9_asNumber (d := d) v8) (fun _ => trivial) (fun _ => rfl) (fun v9 => ?_)
    exact ev_ret (e_iret dX9_count_138)
  refine ev_ite (P := i0 = 6) (fun h10 => ?_) (fun h10 => ?_)
  · refine ev_st (pc' := 139) (L' := [xR a, xI i0, xR (a + 2)]) (st' := []) (fun _ _ _ k => e_tin dX9_count_9 (tgt := 139) (off := 130) (by omega) (by omega) (by rw [h10]; rfl) rfl k) ?_
    exact ev_ret (e_aload_n dX9_count_139 rfl (i := 2) (x := (a + 2)) rfl (e_geti dX9_count_140 flX9_284 (kd9_2 h_a) (Or.inl rfl) (e_iret dX9_count_143)))
  refine ev_ite (P := i0 = 7) (fun h11 => ?_) (fun h11 => ?_)
  · refine ev_st (pc' := 144) (L' := [xR a, xI i0, xR (a + 2)]) (st' := []) (fun _ _ _ k => e_tin dX9_count_9 (tgt := 144) (off := 135) (by omega) (by omega) (by rw [h11]; rfl) rfl k) ?_
    refine ev_st (pc' := 148) (L' := [xR a, xI i0, xR (a + 2)]) (st' := [xI (R (a + 2) 7)]) (fun _ _ _ k => e_aload_n dX9_count_144 rfl (i := 2) (x := (a + 2)) rfl (e_geti dX9_count_145 flX9_287 (kd9_2 h_a) (Or.inl rfl) k)) ?_
    refine ev_callS (As := [xI (R (a + 2) 7)]) (st := []) (fun v12 => [xI v12]) dX9_count_148 mlX9_290 rfl rfl rfl rfl rfl rfl (c_J6_bitCount_0f7a4 (d := d) (R (a + 2) 7)) (fun _ => trivial) (fun _ => rfl) (fun v12 => ?_)
    exact ev_ret (e_iret dX9_count_151)
  refine ev_ite (P := i0 = 8) (fun h13 => ?_) (fun h13 => ?_)
  · refine ev_st (pc' := 152) (L' := [xR a, xI i0, xR (a + 2)]) (st' := []) (fun _ _ _ k => e_tin dX9_count_9 (tgt := 152) (off := 143) (by omega) (by omega) (by rw [h13]; rfl) rfl k) ?_
    exact ev_ret (e_aload_n dX9_count_152 rfl (i := 2) (x := (a + 2)) rfl (e_getr dX9_count_153 flX9_110 (kd9_2 h_a) rfl (rf9_2_2 h_a) (e_geti dX9_count_156 flX9_295 (kd9_9 h_a) (Or.inl rfl) (e_iret dX9_count_159))))
  refine ev_ite (P := i0 = 9) (fun h14 => ?_) (fun h14 => ?_)
  · refine ev_st (pc' := 160) (L' := [xR a, xI i0, xR (a + 2)]) (st' := []) (fun _ _ _ k => e_tin dX9_count_9 (tgt := 160) (off := 151) (by omega) (by omega) (by rw [h14]; rfl) rfl k) ?_
    exact ev_ret (e_aload_n dX9_count_160 rfl (i := 2) (x := (a + 2)) rfl (e_getr dX9_count_161 flX9_119 (kd9_2 h_a) rfl (rf9_2_3 h_a) (e_geti dX9_count_164 flX9_298 (kd9_13 h_a) (Or.inl rfl) (e_iret dX9_count_167))))
  refine ev_ite (P := i0 = 10) (fun h15 => ?_) (fun h15 => ?_)
  · refine ev_st (pc' := 168) (L' := [xR a, xI i0, xR (a + 2)]) (st' := []) (fun _ _ _ k => e_tin dX9_count_9 (tgt := 168) (off := 159) (by omega) (by omega) (by rw [h15]; rfl) rfl k) ?_
    refine ev_st (pc' := 175) (L' := [xR a, xI i0, xR (a + 2)]) (st' := [xI (R (a + 1) 2)]) (fun _ _ _ k => e_aload_n dX9_count_168 rfl (i := 0) (x := a) rfl (e_getr dX9_count_169 flX9_10 (kd9_0 h_a) rfl (rf9_0_0 h_a) (e_geti dX9_count_172 flX9_299 (kd9_1 h_a) (Or.inl rfl) k))) ?_
    refine ev_callS (As := [xI (R (a + 1) 2)]) (st := []) (fun v16 => [xI v16]) dX9_count_175 mlX9_290 rfl rfl rfl rfl rfl rfl (c_J6_bitCount_0f7a4 (d := d) (R (a + 1) 2)) (fun _ => trivial) (fun _ => rfl) (fun v16 => ?_)
    exact ev_ret (e_iret dX9_count_178)
  refine ev_ite (P := i0 = 11) (fun h17 => ?_) (fun h17 => ?_)
  · refine ev_st (pc' := 179) (L' := [xR a, xI i0, xR (a + 2)]) (st' := []) (fun _ _ _ k => e_tin dX9_count_9 (tgt := 179) (off := 170) (by omega) (by omega) (by rw [h17]; rfl) rfl k) ?_
    exact ev_ret (e_aload_n dX9_count_179 rfl (i := 0) (x := a) rfl (e_getr dX9_count_180 flX9_19 (kd9_0 h_a) rfl (rf9_0_1 h_a) (e_geti dX9_count_183 flX9_302 (kd9_45 h_a) (Or.inl rfl) (e_iret dX9_count_186))))
  refine ev_ite (P := i0 = 12) (fun h18 => ?_) (fun h18 => ?_)
  · refine ev_st (pc' := 187) (L' := [xR a, xI i0, xR (a + 2)]) (st' := []) (fun _ _ _ k => e_tin dX9_count_9 (tgt := 187) (off := 178) (by omega) (by omega) (by rw [h18]; rfl) rfl k) ?_
    exact ev_ret (e_aload_n dX9_count_187 rfl (i := 0) (x := a) rfl (e_geti dX9_count_188 flX9_41 (kd9_0 h_a) (Or.inl rfl) (e_iret dX9_count_191)))
  refine ev_ite (P := i0 = 13) (fun h19 => ?_) (fun h19 => ?_)
  · refine ev_st (pc' := 192) (L' := [xR a, xI i0, xR (a + 2)]) (st' := []) (fun _ _ _ k => e_tin dX9_count_9 (tgt := 192) (off := 183) (by omega) (by omega) (by rw [h19]; rfl) rfl k) ?_
    exact ev_ret (e_aload_n dX9_count_192 rfl (i := 2) (x := (a + 2)) rfl (e_geti dX9_count_193 flX9_303 (kd9_2 h_a) (Or.inl rfl) (e_iret dX9_count_196)))
  refine ev_ite (P := i0 = 14) (fun h20 => ?_) (fun h20 => ?_)
  · refine ev_st (pc' := 197) (L' := [xR a, xI i0, xR (a + 2)]) (st' := []) (fun _ _ _ k => e_tin dX9_count_9 (tgt := 197) (off := 188) (by omega) (by omega) (by rw [h20]; rfl) rfl k) ?_
    exact ev_ret (e_aload_n dX9_count_197 rfl (i := 2) (x := (a + 2)) rfl (e_geti dX9_count_198 flX9_305 (kd9_2 h_a) (Or.inl rfl) (e_iret dX9_count_201)))
  refine ev_ite (P := i0 = 15) (fun h21 => ?_) (fun h21 => ?_)
  · refine ev_st (pc' := 202) (L' := [xR a, xI i0, xR (a + 2)]) (st' := []) (fun _ _ _ k => e_tin dX9_count_9 (tgt := 202) (off := 193) (by omega) (by omega) (by rw [h21]; rfl) rfl k) ?_
    exact ev_ret (e_aload_n dX9_count_202 rfl (i := 2) (x := (a + 2)) rfl (e_geti dX9_count_203 flX9_308 (kd9_2 h_a) (Or.inl rfl) (e_iret dX9_count_206)))
  refine ev_st (pc' := 207) (L' := [xR a, xI i0, xR (a + 2)]) (st' := []) (fun _ _ _ k => e_tout dX9_count_9 (tgt := 207) (by omega) rfl k) ?_
  exact ev_ret (e_iconst dX9_count_207 (k4 rfl) (e_iret dX9_count_208))
def f_X9_side (a : Nat) (i0 : Int) (i1 : Int) (i2 : Int) (i3 : Int) (R : xN) : Option (Int) :=
  (f_X5_hasSide (a + 3) i0 i1 i2 R).bind (fun v1 =>
  if v1 = true then
  (f_X9_isIn i3 0 1 R).bind (fun v3 =>
  if v3 = true then
  (f_X9_cellAt i0 i1 R).bind (fun v5 =>
  (f_X9_placeOfSide v5 i2 R).bind (fun v6 =>
  if i3 = 0 then
  (f_X5_numberAt (a + 3) v6 R).bind (fun v8 =>
  some v8)
  else
  (f_X5_turnAt (a + 3) v6 R).bind (fun v9 =>
  some v9)))
  else
  some (-1))
  else
  some (-1))
set_option maxRecDepth 20000 in
set_option maxHeartbeats 4000000 in
theorem c_X9_side {l : Launch} {g : xG} {d : Nat} {A : xA} {R : xN} {a : Nat} (h_a : sh 9 A a) (i0 : Int) (i1 : Int) (i2 : Int) (i3 : Int) : Ev l g (d + 2) mX9_side 0 [xR a, xI i0, xI i1, xI i2, xI i3, xU, xU] [] A R (fun v : Int => some (xI v)) (fun _ => R) (f_X9_side a i0 i1 i2 i3 R) := by
  rw [f_X9_side]
  refine ev_st (pc' := 17) (L' := [xR a, xI i0, xI i1, xI i2, xI i3, xR (a + 3), xU]) (st' := [xI i2, xI i1, xI i0, xR (a + 3)]) (fun _ _ _ k => e_aload_n dX9_side_0 rfl (i := 0) (x := a) rfl (e_getr dX9_side_1 flX9_10 (kd9_0 h_a) rfl (rf9_0_0 h_a) (e_getr dX9_side_4 flX9_62 (kd9_1 h_a) rfl (rf9_1_0 h_a) (e_getr dX9_side_7 flX9_253 (kd9_2 h_a) rfl (rf9_2_0 h_a) (e_astore dX9_side_10 (i := 5) rfl (L' := [xR a, xI i0, xI i1, xI i2, xI i3, xR (a + 3), xU]) rfl (e_aload dX9_side_12 (i := 5) (x := (a + 3)) rfl (e_iload_n dX9_side_14 rfl (i := 1) (x := i0) rfl (e_iload_n dX9_side_15 rfl (i := 2) (x := i1) rfl (e_iload_n dX9_side_16 rfl (i := 3) (x := i2) rfl k))))))))) ?_
  refine ev_callV (As := [xI i0, xI i1, xI i2]) (st := []) (fun v1 => [xI (xz v1)]) dX9_side_17 mlX9_310 (kd9_3 h_a) rfl rfl rfl rfl rfl rfl (c_X5_hasSide (d := d) (sb9_3_5 h_a) i0 i1 i2) (fun _ => xz01 _) (fun _ => rfl) (fun v1 => ?_)
  refine ev_br2 (P := v1 = true) (pct := 23) (pcf := 33) (st' := []) (fun _ _ _ kt kf => e_ifeqz dX9_side_20 (tgt := 33) rfl kt kf) (fun h2 => ?_) (fun h2 => ?_)
  · refine ev_st (pc' := 27) (L' := [xR a, xI i0, xI i1, xI i2, xI i3, xR (a + 3), xU]) (st' := [xI 1, xI 0, xI i3]) (fun _ _ _ k => e_iload dX9_side_23 (i := 4) (x := i3) rfl (e_iconst dX9_side_25 (k4 rfl) (e_iconst dX9_side_26 (k4 rfl) k))) ?_
    refine ev_callS (As := [xI i3, xI 0, xI 1]) (st := []) (fun v3 => [xI (xz v3)]) dX9_side_27 mlX9_145 rfl rfl rfl rfl rfl rfl (c_X9_isIn (d := d + 1) i3 0 1) (fun _ => xz01 _) (fun _ => rfl) (fun v3 => ?_)
    refine ev_br2 (P := v3 = true) (pct := 35) (pcf := 33) (st' := []) (fun _ _ _ kt kf => e_ifnez dX9_side_30 (tgt := 35) rfl kt kf) (fun h4 => ?_) (fun h4 => ?_)
    · refine ev_st (pc' := 37) (L' := [xR a, xI i0, xI i1, xI i2, xI i3, xR (a + 3), xU]) (st' := [xI i1, xI i0]) (fun _ _ _ k => e_iload_n dX9_side_35 rfl (i := 1) (x := i0) rfl (e_iload_n dX9_side_36 rfl (i := 2) (x := i1) rfl k)) ?_
      refine ev_callS (As := [xI i0, xI i1]) (st := []) (fun v5 => [xI v5]) dX9_side_37 mlX9_313 rfl rfl rfl rfl rfl rfl (c_X9_cellAt (d := d + 1) i0 i1) (fun _ => trivial) (fun _ => rfl) (fun v5 => ?_)
      refine ev_st (pc' := 41) (L' := [xR a, xI i0, xI i1, xI i2, xI i3, xR (a + 3), xU]) (st' := [xI i2, xI v5]) (fun _ _ _ k => e_iload_n dX9_side_40 rfl (i := 3) (x := i2) rfl k) ?_
      refine ev_callS (As := [xI v5, xI i2]) (st := []) (fun v6 => [xI v6]) dX9_side_41 mlX9_316 rfl rfl rfl rfl rfl rfl (c_X9_placeOfSide (d := d + 1) v5 i2) (fun _ => trivial) (fun _ => rfl) (fun v6 => ?_)
      refine ev_st (pc' := 48) (L' := [xR a, xI i0, xI i1, xI i2, xI i3, xR (a + 3), xI v6]) (st' := [xI i3]) (fun _ _ _ k => e_istore dX9_side_44 (i := 6) rfl (L' := [xR a, xI i0, xI i1, xI i2, xI i3, xR (a + 3), xI v6]) rfl (e_iload dX9_side_46 (i := 4) (x := i3) rfl k)) ?_
      refine ev_br2 (P := i3 = 0) (pct := 51) (pcf := 61) (st' := []) (fun _ _ _ kt kf => e_ifne dX9_side_48 (tgt := 61) rfl kt kf) (fun h7 => ?_) (fun h7 => ?_)
      · refine ev_st (pc' := 55) (L' := [xR a, xI i0, xI i1, xI i2, xI i3, xR (a + 3), xI v6]) (st' := [xI v6, xR (a + 3)]) (fun _ _ _ k => e_aload dX9_side_51 (i := 5) (x := (a + 3)) rfl (e_iload dX9_side_53 (i := 6) (x := v6) rfl k)) ?_
        refine ev_callV (As := [xI v6]) (st := []) (fun v8 => [xI v8]) dX9_side_55 mlX9_319 (kd9_3 h_a) rfl rfl rfl rfl rfl rfl (c_X5_numberAt (d := d) (sb9_3_5 h_a) v6) (fun _ => trivial) (fun _ => rfl) (fun v8 => ?_)
        exact ev_ret (e_goto dX9_side_58 (tgt := 68) rfl (e_iret dX9_side_68))
      · refine ev_st (pc' := 65) (L' := [xR a, xI i0, xI i1, xI i2, xI i3, xR (a + 3), xI v6]) (st' := [xI v6, xR (a + 3)]) (fun _ _ _ k => e_aload dX9_side_61 (i := 5) (x := (a + 3)) rfl (e_iload dX9_side_63 (i := 6) (x := v6) rfl k)) ?_
        refine ev_callV (As := [xI v6]) (st := []) (fun v9 => [xI v9]) dX9_side_65 mlX9_322 (kd9_3 h_a) rfl rfl rfl rfl rfl rfl (c_X5_turnAt (d := d) (sb9_3_5 h_a) v6) (fun _ => trivial) (fun _ => rfl) (fun v9 => ?_)
        exact ev_ret (e_iret dX9_side_68)
    · exact ev_ret (e_iconst dX9_side_33 (k4 rfl) (e_iret dX9_side_34))
  · exact ev_ret (e_iconst dX9_side_33 (k4 rfl) (e_iret dX9_side_34))
def f_X9_layer (a : Nat) (i0 : Int) (i1 : Int) (i2 : Int) (R : xN) : Option (Int) :=
  (f_X3_places (a + 6) R).bind (fun v1 =>
  (f_X9_isIn i0 0 (w4 (v1 - 1)) R).bind (fun v2 =>
  if v2 = true then
  (f_X3_depth (a + 6) R).bind (fun v4 =>
  (f_X9_isIn i1 0 (w4 (v4 - 1)) R).bind (fun v5 =>
  if v5 = true then
  (f_X3_depth (a + 6) R).bind (fun v7 =>
  xlet (w4 ((w4 (i0 * v7)) + i1)) (fun x8 =>
  if i2 = 0 then
  (f_X3_rowAt (a + 6) x8 R).bind (fun v10 =>
  some v10)
  else
  if i2 = 1 then
  (f_X3_columnAt (a + 6) x8 R).bind (fun v12 =>
  some v12)
  else
  if i2 = 2 then
  (f_X3_sideUpAt (a + 6) x8 R).bind (fun v14 =>
  some v14)
  else
  if i2 = 3 then
  (f_X3_isUpsideDown (a + 6) x8 R).bind (fun v16 =>
  (f_X9_asNumber v16 R).bind (fun v17 =>
  some v17))
  else
  if i2 = 4 then
  (f_X3_isMirrored (a + 6) x8 R).bind (fun v19 =>
  (f_X9_asNumber v19 R).bind (fun v20 =>
  some v20))
  else
  some (-1)))
  else
  some (-1)))
  else
  some (-1)))
set_option maxRecDepth 20000 in
set_option maxHeartbeats 4000000 in
theorem c_X9_layer {l : Launch} {g : xG} {d : Nat} {A : xA} {R : xN} {a : Nat} (h_a : sh 9 A a) (i0 : Int) (i1 : Int) (i2 : Int) : Ev l g (d + 2) mX9_layer 0 [xR a, xI i0, xI i1, xI i2, xU, xU] [] A R (fun v : Int => some (xI v)) (fun _ => R) (f_X9_layer a i0 i1 i2 R) := by
  rw [f_X9_layer]
  refine ev_st (pc' := 16) (L' := [xR a, xI i0, xI i1, xI i2, xR (a + 6), xU]) (st' := [xR (a + 6), xI 0, xI i0]) (fun _ _ _ k => e_aload_n dX9_layer_0 rfl (i := 0) (x := a) rfl (e_getr dX9_layer_1 flX9_10 (kd9_0 h_a) rfl (rf9_0_0 h_a) (e_getr dX9_layer_4 flX9_62 (kd9_1 h_a) rfl (rf9_1_0 h_a) (e_getr dX9_layer_7 flX9_265 (kd9_2 h_a) rfl (rf9_2_1 h_a) (e_astore dX9_layer_10 (i := 4) rfl (L' := [xR a, xI i0, xI i1, xI i2, xR (a + 6), xU]) rfl (e_iload_n dX9_layer_12 rfl (i := 1) (x := i0) rfl (e_iconst dX9_layer_13 (k4 rfl) (e_aload dX9_layer_14 (i := 4) (x := (a + 6)) rfl k)))))))) ?_
  refine ev_callV (As := []) (st := [xI 0, xI i0]) (fun v1 => [xI v1, xI 0, xI i0]) dX9_layer_16 mlX9_325 (kd9_6 h_a) rfl rfl rfl rfl rfl rfl (c_X3_places (d := d + 1) (sb9_6_3 h_a)) (fun _ => trivial) (fun _ => rfl) (fun v1 => ?_)
  refine ev_st (pc' := 21) (L' := [xR a, xI i0, xI i1, xI i2, xR (a + 6), xU]) (st' := [xI (w4 (v1 - 1)), xI 0, xI i0]) (fun _ _ _ k => e_iconst dX9_layer_19 (k4 rfl) (e_isub dX9_layer_20 k)) ?_
  refine ev_callS (As := [xI i0, xI 0, xI (w4 (v1 - 1))]) (st := []) (fun v2 => [xI (xz v2)]) dX9_layer_21 mlX9_145 rfl rfl rfl rfl rfl rfl (c_X9_isIn (d := d + 1) i0 0 (w4 (v1 - 1))) (fun _ => xz01 _) (fun _ => rfl) (fun v2 => ?_)
  refine ev_br2 (P := v2 = true) (pct := 27) (pcf := 42) (st' := []) (fun _ _ _ kt kf => e_ifeqz dX9_layer_24 (tgt := 42) rfl kt kf) (fun h3 => ?_) (fun h3 => ?_)
  · refine ev_st (pc' := 31) (L' := [xR a, xI i0, xI i1, xI i2, xR (a + 6), xU]) (st' := [xR (a + 6), xI 0, xI i1]) (fun _ _ _ k => e_iload_n dX9_layer_27 rfl (i := 2) (x := i1) rfl (e_iconst dX9_layer_28 (k4 rfl) (e_aload dX9_layer_29 (i := 4) (x := (a + 6)) rfl k))) ?_
    refine ev_callV (As := []) (st := [xI 0, xI i1]) (fun v4 => [xI v4, xI 0, xI i1]) dX9_layer_31 mlX9_271 (kd9_6 h_a) rfl rfl rfl rfl rfl rfl (c_X3_depth (d := d + 1) (sb9_6_3 h_a)) (fun _ => trivial) (fun _ => rfl) (fun v4 => ?_)
    refine ev_st (pc' := 36) (L' := [xR a, xI i0, xI i1, xI i2, xR (a + 6), xU]) (st' := [xI (w4 (v4 - 1)), xI 0, xI i1]) (fun _ _ _ k => e_iconst dX9_layer_34 (k4 rfl) (e_isub dX9_layer_35 k)) ?_
    refine ev_callS (As := [xI i1, xI 0, xI (w4 (v4 - 1))]) (st := []) (fun v5 => [xI (xz v5)]) dX9_layer_36 mlX9_145 rfl rfl rfl rfl rfl rfl (c_X9_isIn (d := d + 1) i1 0 (w4 (v4 - 1))) (fun _ => xz01 _) (fun _ => rfl) (fun v5 => ?_)
    refine ev_br2 (P := v5 = true) (pct := 44) (pcf := 42) (st' := []) (fun _ _ _ kt kf => e_ifnez dX9_layer_39 (tgt := 44) rfl kt kf) (fun h6 => ?_) (fun h6 => ?_)
    · refine ev_st (pc' := 47) (L' := [xR a, xI i0, xI i1, xI i2, xR (a + 6), xU]) (st' := [xR (a + 6), xI i0]) (fun _ _ _ k => e_iload_n dX9_layer_44 rfl (i := 1) (x := i0) rfl (e_aload dX9_layer_45 (i := 4) (x := (a + 6)) rfl k)) ?_
      refine ev_callV (As := []) (st := [xI i0]) (fun v7 => [xI v7, xI i0]) dX9_layer_47 mlX9_271 (kd9_6 h_a) rfl rfl rfl rfl rfl rfl (c_X3_depth (d := d + 1) (sb9_6_3 h_a)) (fun _ => trivial) (fun _ => rfl) (fun v7 => ?_)
      refine ev_st (pc' := 53) (L' := [xR a, xI i0, xI i1, xI i2, xR (a + 6), xU]) (st' := [xI (w4 ((w4 (i0 * v7)) + i1))]) (fun _ _ _ k => e_imul dX9_layer_50 (e_iload_n dX9_layer_51 rfl (i := 2) (x := i1) rfl (e_iadd dX9_layer_52 k))) ?_
      refine ev_leti (fun x8 ex8 => ?_)
      refine ev_st (pc' := 55) (L' := [xR a, xI i0, xI i1, xI i2, xR (a + 6), xI x8]) (st' := []) (fun _ _ _ k => e_istore dX9_layer_53 (i := 5) rfl (L' := [xR a, xI i0, xI i1, xI i2, xR (a + 6), xI x8]) rfl k) ?_
      refine ev_st (pc' := 56) (L' := [xR a, xI i0, xI i1, xI i2, xR (a + 6), xI x8]) (st' := [xI i2]) (fun _ _ _ k => e_iload_n dX9_layer_55 rfl (i := 3) (x := i2) rfl k) ?_
      refine ev_ite (P := i2 = 0) (fun h9 => ?_) (fun h9 => ?_)
      · refine ev_st (pc' := 92) (L' := [xR a, xI i0, xI i1, xI i2, xR (a + 6), xI x8]) (st' := []) (fun _ _ _ k => e_tin dX9_layer_56 (tgt := 92) (off := 36) (by omega) (by omega) (by rw [h9]; rfl) rfl k) ?_
        refine ev_st (pc' := 96) (L' := [xR a, xI i0, xI i1, xI i2, xR (a + 6), xI x8]) (st' := [xI x8, xR (a + 6)]) (fun _ _ _ k => e_aload dX9_layer_92 (i := 4) (x := (a + 6)) rfl (e_iload dX9_layer_94 (i := 5) (x := x8) rfl k)) ?_
        refine ev_callV (As := [xI x8]) (st := []) (fun v10 => [xI v10]) dX9_layer_96 mlX9_328 (kd9_6 h_a) rfl rfl rfl rfl rfl rfl (c_X3_rowAt (d := d) (sb9_6_3 h_a) x8) (fun _ => trivial) (fun _ => rfl) (fun v10 => ?_)
        exact ev_ret (e_iret dX9_layer_99)
      refine ev_ite (P := i2 = 1) (fun h11 => ?_) (fun h11 => ?_)
      · refine ev_st (pc' := 100) (L' := [xR a, xI i0, xI i1, xI i2, xR (a + 6), xI x8]) (st' := []) (fun _ _ _ k => e_tin dX9_layer_56 (tgt := 100) (off := 44) (by omega) (by omega) (by rw [h11]; rfl) rfl k) ?_
        refine ev_st (pc' := 104) (L' := [xR a, xI i0, xI i1, xI i2, xR (a + 6), xI x8]) (st' := [xI x8, xR (a + 6)]) (fun _ _ _ k => e_aload dX9_layer_100 (i := 4) (x := (a + 6)) rfl (e_iload dX9_layer_102 (i := 5) (x := x8) rfl k)) ?_
        refine ev_callV (As := [xI x8]) (st := []) (fun v12 => [xI v12]) dX9_layer_104 mlX9_331 (kd9_6 h_a) rfl rfl rfl rfl rfl rfl (c_X3_columnAt (d := d) (sb9_6_3 h_a) x8) (fun _ => trivial) (fun _ => rfl) (fun v12 => ?_)
        exact ev_ret (e_iret dX9_layer_107)
      refine ev_ite (P := i2 = 2) (fun h13 => ?_) (fun h13 => ?_)
      · refine ev_st (pc' := 108) (L' := [xR a, xI i0, xI i1, xI i2, xR (a + 6), xI x8]) (st' := []) (fun _ _ _ k => e_tin dX9_layer_56 (tgt := 108) (off := 52) (by omega) (by omega) (by rw [h13]; rfl) rfl k) ?_
        refine ev_st (pc' := 112) (L' := [xR a, xI i0, xI i1, xI i2, xR (a + 6), xI x8]) (st' := [xI x8, xR (a + 6)]) (fun _ _ _ k => e_aload dX9_layer_108 (i := 4) (x := (a + 6)) rfl (e_iload dX9_layer_110 (i := 5) (x := x8) rfl k)) ?_
        refine ev_callV (As := [xI x8]) (st := []) (fun v14 => [xI v14]) dX9_layer_112 mlX9_334 (kd9_6 h_a) rfl rfl rfl rfl rfl rfl (c_X3_sideUpAt (d := d) (sb9_6_3 h_a) x8) (fun _ => trivial) (fun _ => rfl) (fun v14 => ?_)
        exact ev_ret (e_iret dX9_layer_115)
      refine ev_ite (P := i2 = 3) (fun h15 => ?_) (fun h15 => ?_)
      · refine ev_st (pc' := 116) (L' := [xR a, xI i0, xI i1, xI i2, xR (a + 6), xI x8]) (st' := []) (fun _ _ _ k => e_tin dX9_layer_56 (tgt := 116) (off := 60) (by omega) (by omega) (by rw [h15]; rfl) rfl k) ?_
        refine ev_st (pc' := 120) (L' := [xR a, xI i0, xI i1, xI i2, xR (a + 6), xI x8]) (st' := [xI x8, xR (a + 6)]) (fun _ _ _ k => e_aload dX9_layer_116 (i := 4) (x := (a + 6)) rfl (e_iload dX9_layer_118 (i := 5) (x := x8) rfl k)) ?_
        refine ev_callV (As := [xI x8]) (st := []) (fun v16 => [xI (xz v16)]) dX9_layer_120 mlX9_337 (kd9_6 h_a) rfl rfl rfl rfl rfl rfl (c_X3_isUpsideDown (d := d) (sb9_6_3 h_a) x8) (fun _ => xz01 _) (fun _ => rfl) (fun v16 => ?_)
        refine ev_callS (As := [xI (xz v16)]) (st := []) (fun v17 => [xI v17]) dX9_layer_123 mlX9_280 rfl rfl rfl rfl rfl rfl (c_X9_asNumber (d := d + 1) v16) (fun _ => trivial) (fun _ => rfl) (fun v17 => ?_)
        exact ev_ret (e_iret dX9_layer_126)
      refine ev_ite (P := i2 = 4) (fun h18 => ?_) (fun h18 => ?_)
      · refine ev_st (pc' := 127) (L' := [xR a, xI i0, xI i1, xI i2, xR (a + 6), xI x8]) (st' := []) (fun _ _ _ k => e_tin dX9_layer_56 (tgt := 127) (off := 71) (by omega) (by omega) (by rw [h18]; rfl) rfl k) ?_
        refine ev_st (pc' := 131) (L' := [xR a, xI i0, xI i1, xI i2, xR (a + 6), xI x8]) (st' := [xI x8, xR (a + 6)]) (fun _ _ _ k => e_aload dX9_layer_127 (i := 4) (x := (a + 6)) rfl (e_iload dX9_layer_129 (i := 5) (x := x8) rfl k)) ?_
        refine ev_callV (As := [xI x8]) (st := []) (fun v19 => [xI (xz v19)]) dX9_layer_131 mlX9_340 (kd9_6 h_a) rfl rfl rfl rfl rfl rfl (c_X3_isMirrored (d := d) (sb9_6_3 h_a) x8) (fun _ => xz01 _) (fun _ => rfl) (fun v19 => ?_)
        refine ev_callS (As := [xI (xz v19)]) (st := []) (fun v20 => [xI v20]) dX9_layer_134 mlX9_280 rfl rfl rfl rfl rfl rfl (c_X9_asNumber (d := d + 1) v19) (fun _ => trivial) (fun _ => rfl) (fun v20 => ?_)
        exact ev_ret (e_iret dX9_layer_137)
      refine ev_st (pc' := 138) (L' := [xR a, xI i0, xI i1, xI i2, xR (a + 6), xI x8]) (st' := []) (fun _ _ _ k => e_tout dX9_layer_56 (tgt := 138) (by omega) rfl k) ?_
      exact ev_ret (e_iconst dX9_layer_138 (k4 rfl) (e_iret dX9_layer_139))
    · exact ev_ret (e_iconst dX9_layer_42 (k4 rfl) (e_iret dX9_layer_43))
  · exact ev_ret (e_iconst dX9_layer_42 (k4 rfl) (e_iret dX9_layer_43))
def f_X9_uprightOn (a : Nat) (i1 : Int) (R : xN) : Option (Int) :=
  (f_X0_numberOn a (a + 4) i1 R).bind (fun v1 =>
  if v1 = (-9) then
  some (-9)
  else
  (f_X0_isUpright a (a + 4) i1 R).bind (fun v3 =>
  (f_X9_asNumber v3 R).bind (fun v4 =>
  some v4)))
set_option maxRecDepth 20000 in
set_option maxHeartbeats 4000000 in
theorem c_X9_uprightOn {l : Launch} {g : xG} {d : Nat} {A : xA} {R : xN} {a : Nat} (h_a : sh 0 A a) (i1 : Int) : Ev l g (d + 4) mX9_uprightOn 0 [xR a, xI i1] [] A R (fun v : Int => some (xI v)) (fun _ => R) (f_X9_uprightOn a i1 R) := by
  rw [f_X9_uprightOn]
  refine ev_st (pc' := 6) (L' := [xR a, xI i1]) (st' := [xI i1, xR (a + 4), xR a]) (fun _ _ _ k => e_aload_n dX9_uprightOn_0 rfl (i := 0) (x := a) rfl (e_aload_n dX9_uprightOn_1 rfl (i := 0) (x := a) rfl (e_getr dX9_uprightOn_2 flX9_265 (kd0_0 h_a) rfl (rf0_0_1 h_a) (e_iload_n dX9_uprightOn_5 rfl (i := 1) (x := i1) rfl k)))) ?_
  refine ev_callV (As := [xR (a + 4), xI i1]) (st := []) (fun v1 => [xI v1]) dX9_uprightOn_6 mlX9_349 (kd0_0 h_a) rfl rfl rfl rfl rfl rfl (c_X0_numberOn (d := d + 1) h_a (sb0_4_3 h_a) i1) (fun _ => trivial) (fun _ => rfl) (fun v1 => ?_)
  refine ev_st (pc' := 11) (L' := [xR a, xI i1]) (st' := [xI (-9), xI v1]) (fun _ _ _ k => e_bipush dX9_uprightOn_9 rfl (k4 rfl) k) ?_
  refine ev_br2 (P := v1 = (-9)) (pct := 14) (pcf := 17) (st' := []) (fun _ _ _ kt kf => e_cne dX9_uprightOn_11 (tgt := 17) rfl kt kf) (fun h2 => ?_) (fun h2 => ?_)
  · exact ev_ret (e_bipush dX9_uprightOn_14 rfl (k4 rfl) (e_iret dX9_uprightOn_16))
  · refine ev_st (pc' := 23) (L' := [xR a, xI i1]) (st' := [xI i1, xR (a + 4), xR a]) (fun _ _ _ k => e_aload_n dX9_uprightOn_17 rfl (i := 0) (x := a) rfl (e_aload_n dX9_uprightOn_18 rfl (i := 0) (x := a) rfl (e_getr dX9_uprightOn_19 flX9_265 (kd0_0 h_a) rfl (rf0_0_1 h_a) (e_iload_n dX9_uprightOn_22 rfl (i := 1) (x := i1) rfl k)))) ?_
    refine ev_callV (As := [xR (a + 4), xI i1]) (st := []) (fun v3 => [xI (xz v3)]) dX9_uprightOn_23 mlX9_370 (kd0_0 h_a) rfl rfl rfl rfl rfl rfl (c_X0_isUpright (d := d) h_a (sb0_4_3 h_a) i1) (fun _ => xz01 _) (fun _ => rfl) (fun v3 => ?_)
    refine ev_callS (As := [xI (xz v3)]) (st := []) (fun v4 => [xI v4]) dX9_uprightOn_26 mlX9_280 rfl rfl rfl rfl rfl rfl (c_X9_asNumber (d := d + 3) v3) (fun _ => trivial) (fun _ => rfl) (fun v4 => ?_)
    exact ev_ret (e_iret dX9_uprightOn_29)
def f_X9_page (a : Nat) (i0 : Int) (i1 : Int) (R : xN) : Option (Int × xN) :=
  (f_X3_isBooklet (a + 6) R).bind (fun v1 =>
  if v1 = true then
  (f_X3_lastPage (a + 6) R).bind (fun v3 =>
  (f_X9_isIn i0 0 v3 R).bind (fun v4 =>
  if v4 = true then
  if i1 = 0 then
  (f_X3_rowAt (a + 6) (w4 (Int.tdiv i0 2)) R).bind (fun v7 =>
  some (v7, R))
  else
  if i1 = 1 then
  (f_X3_columnAt (a + 6) (w4 (Int.tdiv i0 2)) R).bind (fun v9 =>
  some (v9, R))
  else
  if i1 = 2 then
  (f_X3_sideOfPage (a + 6) i0 R).bind (fun v11 =>
  some (v11, R))
  else
  if i1 = 3 then
  (f_X0_numberOn (a + 2) (a + 6) i0 R).bind (fun v13 =>
  some (v13, R))
  else
  if i1 = 4 then
  (f_X9_uprightOn (a + 2) i0 R).bind (fun v15 =>
  some (v15, R))
  else
  if i1 = 5 then
  (f_X0_isHidden (a + 2) i0 R).bind (fun v17 =>
  (f_X9_asNumber v17 R).bind (fun v18 =>
  some (v18, R)))
  else
  if i1 = 6 then
  (f_X0_whyNotRead (a + 2) i0 R).bind (fun v20 =>
  if v20 = 0 then
  (f_X9_asNumber true R).bind (fun v22 =>
  some (v22, R))
  else
  (f_X9_asNumber false R).bind (fun v23 =>
  some (v23, R)))
  else
  if i1 = 7 then
  (f_X2_arrange (a + 314) (a + 2) R).bind (fun v25 =>
  (f_X2_takenOn (a + 314) i0 (a + 13) v25).bind (fun v26 =>
  some (v26, v25)))
  else
  some ((-1), R)
  else
  some ((-1), R)))
  else
  some ((-2), R))
set_option maxRecDepth 20000 in
set_option maxHeartbeats 4000000 in
theorem c_X9_page {l : Launch} {g : xG} {d : Nat} {A : xA} {R : xN} {a : Nat} (h_a : sh 9 A a) (i0 : Int) (i1 : Int) : Ev l g (d + 6) mX9_page 0 [xR a, xI i0, xI i1, xU] [] A R (fun v : Int × xN => some (xI v.1)) (fun v => v.2) (f_X9_page a i0 i1 R) := by
  rw [f_X9_page]
  refine ev_st (pc' := 12) (L' := [xR a, xI i0, xI i1, xR (a + 2)]) (st' := [xR (a + 6)]) (fun _ _ _ k => e_aload_n dX9_page_0 rfl (i := 0) (x := a) rfl (e_getr dX9_page_1 flX9_10 (kd9_0 h_a) rfl (rf9_0_0 h_a) (e_getr dX9_page_4 flX9_62 (kd9_1 h_a) rfl (rf9_1_0 h_a) (e_astore_n dX9_page_7 rfl (i := 3) rfl (L' := [xR a, xI i0, xI i1, xR (a + 2)]) rfl (e_aload_n dX9_page_8 rfl (i := 3) (x := (a + 2)) rfl (e_getr dX9_page_9 flX9_265 (kd9_2 h_a) rfl (rf9_2_1 h_a) k)))))) ?_
  refine ev_callV (As := []) (st := []) (fun v1 => [xI (xz v1)]) dX9_page_12 mlX9_277 (kd9_6 h_a) rfl rfl rfl rfl rfl rfl (c_X3_isBooklet (d := d + 5) (sb9_6_3 h_a)) (fun _ => xz01 _) (fun _ => rfl) (fun v1 => ?_)
  refine ev_br2 (P := v1 = true) (pct := 21) (pcf := 18) (st' := []) (fun _ _ _ kt kf => e_ifnez dX9_page_15 (tgt := 21) rfl kt kf) (fun h2 => ?_) (fun h2 => ?_)
  · refine ev_st (pc' := 27) (L' := [xR a, xI i0, xI i1, xR (a + 2)]) (st' := [xR (a + 6), xI 0, xI i0]) (fun _ _ _ k => e_iload_n dX9_page_21 rfl (i := 1) (x := i0) rfl (e_iconst dX9_page_22 (k4 rfl) (e_aload_n dX9_page_23 rfl (i := 3) (x := (a + 2)) rfl (e_getr dX9_page_24 flX9_265 (kd9_2 h_a) rfl (rf9_2_1 h_a) k)))) ?_
    refine ev_callV (As := []) (st := [xI 0, xI i0]) (fun v3 => [xI v3, xI 0, xI i0]) dX9_page_27 mlX9_343 (kd9_6 h_a) rfl rfl rfl rfl rfl rfl (c_X3_lastPage (d := d + 4) (sb9_6_3 h_a)) (fun _ => trivial) (fun _ => rfl) (fun v3 => ?_)
    refine ev_callS (As := [xI i0, xI 0, xI v3]) (st := []) (fun v4 => [xI (xz v4)]) dX9_page_30 mlX9_145 rfl rfl rfl rfl rfl rfl (c_X9_isIn (d := d + 5) i0 0 v3) (fun _ => xz01 _) (fun _ => rfl) (fun v4 => ?_)
    refine ev_br2 (P := v4 = true) (pct := 38) (pcf := 36) (st' := []) (fun _ _ _ kt kf => e_ifnez dX9_page_33 (tgt := 38) rfl kt kf) (fun h5 => ?_) (fun h5 => ?_)
    · refine ev_st (pc' := 39) (L' := [xR a, xI i0, xI i1, xR (a + 2)]) (st' := [xI i1]) (fun _ _ _ k => e_iload_n dX9_page_38 rfl (i := 2) (x := i1) rfl k) ?_
      refine ev_ite (P := i1 = 0) (fun h6 => ?_) (fun h6 => ?_)
      · refine ev_st (pc' := 84) (L' := [xR a, xI i0, xI i1, xR (a + 2)]) (st' := []) (fun _ _ _ k => e_tin dX9_page_39 (tgt := 84) (off := 45) (by omega) (by omega) (by rw [h6]; rfl) rfl k) ?_
        refine ev_st (pc' := 91) (L' := [xR a, xI i0, xI i1, xR (a + 2)]) (st' := [xI (w4 (Int.tdiv i0 2)), xR (a + 6)]) (fun _ _ _ k => e_aload_n dX9_page_84 rfl (i := 3) (x := (a + 2)) rfl (e_getr dX9_page_85 flX9_265 (kd9_2 h_a) rfl (rf9_2_1 h_a) (e_iload_n dX9_page_88 rfl (i := 1) (x := i0) rfl (e_iconst dX9_page_89 (k4 rfl) (e_idiv dX9_page_90 (by decide) k))))) ?_
        refine ev_callV (As := [xI (w4 (Int.tdiv i0 2))]) (st := []) (fun v7 => [xI v7]) dX9_page_91 mlX9_328 (kd9_6 h_a) rfl rfl rfl rfl rfl rfl (c_X3_rowAt (d := d + 4) (sb9_6_3 h_a) (w4 (Int.tdiv i0 2))) (fun _ => trivial) (fun _ => rfl) (fun v7 => ?_)
        exact ev_ret (e_iret dX9_page_94)
      refine ev_ite (P := i1 = 1) (fun h8 => ?_) (fun h8 => ?_)
      · refine ev_st (pc' := 95) (L' := [xR a, xI i0, xI i1, xR (a + 2)]) (st' := []) (fun _ _ _ k => e_tin dX9_page_39 (tgt := 95) (off := 56) (by omega) (by omega) (by rw [h8]; rfl) rfl k) ?_
        refine ev_st (pc' := 102) (L' := [xR a, xI i0, xI i1, xR (a + 2)]) (st' := [xI (w4 (Int.tdiv i0 2)), xR (a + 6)]) (fun _ _ _ k => e_aload_n dX9_page_95 rfl (i := 3) (x := (a + 2)) rfl (e_getr dX9_page_96 flX9_265 (kd9_2 h_a) rfl (rf9_2_1 h_a) (e_iload_n dX9_page_99 rfl (i := 1) (x := i0) rfl (e_iconst dX9_page_100 (k4 rfl) (e_idiv dX9_page_101 (by decide) k))))) ?_
        refine ev_callV (As := [xI (w4 (Int.tdiv i0 2))]) (st := []) (fun v9 => [xI v9]) dX9_page_102 mlX9_331 (kd9_6 h_a) rfl rfl rfl rfl rfl rfl (c_X3_columnAt (d := d + 4) (sb9_6_3 h_a) (w4 (Int.tdiv i0 2))) (fun _ => trivial) (fun _ => rfl) (fun v9 => ?_)
        exact ev_ret (e_iret dX9_page_105)
      refine ev_ite (P := i1 = 2) (fun h10 => ?_) (fun h10 => ?_)
      · refine ev_st (pc' := 106) (L' := [xR a, xI i0, xI i1, xR (a + 2)]) (st' := []) (fun _ _ _ k => e_tin dX9_page_39 (tgt := 106) (off := 67) (by omega) (by omega) (by rw [h10]; rfl) rfl k) ?_
        refine ev_st (pc' := 111) (L' := [xR a, xI i0, xI i1, xR (a + 2)]) (st' := [xI i0, xR (a + 6)]) (fun _ _ _ k => e_aload_n dX9_page_106 rfl (i := 3) (x := (a + 2)) rfl (e_getr dX9_page_107 flX9_265 (kd9_2 h_a) rfl (rf9_2_1 h_a) (e_iload_n dX9_page_110 rfl (i := 1) (x := i0) rfl k))) ?_
        refine ev_callV (As := [xI i0]) (st := []) (fun v11 => [xI v11]) dX9_page_111 mlX9_346 (kd9_6 h_a) rfl rfl rfl rfl rfl rfl (c_X3_sideOfPage (d := d + 3) (sb9_6_3 h_a) i0) (fun _ => trivial) (fun _ => rfl) (fun v11 => ?_)
        exact ev_ret (e_iret dX9_page_114)
      refine ev_ite (P := i1 = 3) (fun h12 => ?_) (fun h12 => ?_)
      · refine ev_st (pc' := 115) (L' := [xR a, xI i0, xI i1, xR (a + 2)]) (st' := []) (fun _ _ _ k => e_tin dX9_page_39 (tgt := 115) (off := 76) (by omega) (by omega) (by rw [h12]; rfl) rfl k) ?_
        refine ev_st (pc' := 121) (L' := [xR a, xI i0, xI i1, xR (a + 2)]) (st' := [xI i0, xR (a + 6), xR (a + 2)]) (fun _ _ _ k => e_aload_n dX9_page_115 rfl (i := 3) (x := (a + 2)) rfl (e_aload_n dX9_page_116 rfl (i := 3) (x := (a + 2)) rfl (e_getr dX9_page_117 flX9_265 (kd9_2 h_a) rfl (rf9_2_1 h_a) (e_iload_n dX9_page_120 rfl (i := 1) (x := i0) rfl k)))) ?_
        refine ev_callV (As := [xR (a + 6), xI i0]) (st := []) (fun v13 => [xI v13]) dX9_page_121 mlX9_349 (kd9_2 h_a) rfl rfl rfl rfl rfl rfl (c_X0_numberOn (d := d + 3) (sb9_2_0 h_a) (sb9_6_3 h_a) i0) (fun _ => trivial) (fun _ => rfl) (fun v13 => ?_)
        exact ev_ret (e_iret dX9_page_124)
      refine ev_ite (P := i1 = 4) (fun h14 => ?_) (fun h14 => ?_)
      · refine ev_st (pc' := 125) (L' := [xR a, xI i0, xI i1, xR (a + 2)]) (st' := []) (fun _ _ _ k => e_tin dX9_page_39 (tgt := 125) (off := 86) (by omega) (by omega) (by rw [h14]; rfl) rfl k) ?_
        refine ev_st (pc' := 127) (L' := [xR a, xI i0, xI i1, xR (a + 2)]) (st' := [xI i0, xR (a + 2)]) (fun _ _ _ k => e_aload_n dX9_page_125 rfl (i := 3) (x := (a + 2)) rfl (e_iload_n dX9_page_126 rfl (i := 1) (x := i0) rfl k)) ?_
        refine ev_callS (As := [xR (a + 2), xI i0]) (st := []) (fun v15 => [xI v15]) dX9_page_127 mlX9_352 rfl rfl rfl rfl rfl rfl (c_X9_uprightOn (d := d + 1) (sb9_2_0 h_a) i0) (fun _ => trivial) (fun _ => rfl) (fun v15 => ?_)
        exact ev_ret (e_iret dX9_page_130)
      refine ev_ite (P := i1 = 5) (fun h16 => ?_) (fun h16 => ?_)
      · refine ev_st (pc' := 131) (L' := [xR a, xI i0, xI i1, xR (a + 2)]) (st' := []) (fun _ _ _ k => e_tin dX9_page_39 (tgt := 131) (off := 92) (by omega) (by omega) (by rw [h16]; rfl) rfl k) ?_
        refine ev_st (pc' := 133) (L' := [xR a, xI i0, xI i1, xR (a + 2)]) (st' := [xI i0, xR (a + 2)]) (fun _ _ _ k => e_aload_n dX9_page_131 rfl (i := 3) (x := (a + 2)) rfl (e_iload_n dX9_page_132 rfl (i := 1) (x := i0) rfl k)) ?_
        refine ev_callV (As := [xI i0]) (st := []) (fun v17 => [xI (xz v17)]) dX9_page_133 mlX9_356 (kd9_2 h_a) rfl rfl rfl rfl rfl rfl (c_X0_isHidden (d := d + 2) (sb9_2_0 h_a) i0) (fun _ => xz01 _) (fun _ => rfl) (fun v17 => ?_)
        refine ev_callS (As := [xI (xz v17)]) (st := []) (fun v18 => [xI v18]) dX9_page_136 mlX9_280 rfl rfl rfl rfl rfl rfl (c_X9_asNumber (d := d + 5) v17) (fun _ => trivial) (fun _ => rfl) (fun v18 => ?_)
        exact ev_ret (e_iret dX9_page_139)
      refine ev_ite (P := i1 = 6) (fun h19 => ?_) (fun h19 => ?_)
      · refine ev_st (pc' := 140) (L' := [xR a, xI i0, xI i1, xR (a + 2)]) (st' := []) (fun _ _ _ k => e_tin dX9_page_39 (tgt := 140) (off := 101) (by omega) (by omega) (by rw [h19]; rfl) rfl k) ?_
        refine ev_st (pc' := 142) (L' := [xR a, xI i0, xI i1, xR (a + 2)]) (st' := [xI i0, xR (a + 2)]) (fun _ _ _ k => e_aload_n dX9_page_140 rfl (i := 3) (x := (a + 2)) rfl (e_iload_n dX9_page_141 rfl (i := 1) (x := i0) rfl k)) ?_
        refine ev_callV (As := [xI i0]) (st := []) (fun v20 => [xI v20]) dX9_page_142 mlX9_359 (kd9_2 h_a) rfl rfl rfl rfl rfl rfl (c_X0_whyNotRead (d := d + 1) (sb9_2_0 h_a) i0) (fun _ => trivial) (fun _ => rfl) (fun v20 => ?_)
        refine ev_br2 (P := v20 = 0) (pct := 148) (pcf := 152) (st' := []) (fun _ _ _ kt kf => e_ifne dX9_page_145 (tgt := 152) rfl kt kf) (fun h21 => ?_) (fun h21 => ?_)
        · refine ev_st (pc' := 153) (L' := [xR a, xI i0, xI i1, xR (a + 2)]) (st' := [xI 1]) (fun _ _ _ k => e_iconst dX9_page_148 (k4 rfl) (e_goto dX9_page_149 (tgt := 153) rfl k)) ?_
          refine ev_callS (As := [xI 1]) (st := []) (fun v22 => [xI v22]) dX9_page_153 mlX9_280 rfl rfl rfl rfl rfl rfl (c_X9_asNumber (d := d + 5) true) (fun _ => trivial) (fun _ => rfl) (fun v22 => ?_)
          exact ev_ret (e_iret dX9_page_156)
        · refine ev_st (pc' := 153) (L' := [xR a, xI i0, xI i1, xR (a + 2)]) (st' := [xI 0]) (fun _ _ _ k => e_iconst dX9_page_152 (k4 rfl) k) ?_
          refine ev_callS (As := [xI 0]) (st := []) (fun v23 => [xI v23]) dX9_page_153 mlX9_280 rfl rfl rfl rfl rfl rfl (c_X9_asNumber (d := d + 5) false) (fun _ => trivial) (fun _ => rfl) (fun v23 => ?_)
          exact ev_ret (e_iret dX9_page_156)
      refine ev_ite (P := i1 = 7) (fun h24 => ?_) (fun h24 => ?_)
      · refine ev_st (pc' := 157) (L' := [xR a, xI i0, xI i1, xR (a + 2)]) (st' := []) (fun _ _ _ k => e_tin dX9_page_39 (tgt := 157) (off := 118) (by omega) (by omega) (by rw [h24]; rfl) rfl k) ?_
        refine ev_st (pc' := 162) (L' := [xR a, xI i0, xI i1, xR (a + 2)]) (st' := [xR (a + 2), xR (a + 314)]) (fun _ _ _ k => e_aload_n dX9_page_157 rfl (i := 0) (x := a) rfl (e_getr dX9_page_158 flX9_33 (kd9_0 h_a) rfl (rf9_0_3 h_a) (e_aload_n dX9_page_161 rfl (i := 3) (x := (a + 2)) rfl k))) ?_
        refine ev_callV (As := [xR (a + 2)]) (st := []) (fun v25 => []) dX9_page_162 mlX9_362 (kd9_314 h_a) rfl rfl rfl rfl rfl rfl (c_X2_arrange (d := d) (sb9_314_2 h_a) (sb9_2_0 h_a)) (fun _ => trivial) (fun _ => rfl) (fun v25 => ?_)
        refine ev_st (pc' := 174) (L' := [xR a, xI i0, xI i1, xR (a + 2)]) (st' := [xR (a + 13), xI i0, xR (a + 314)]) (fun _ _ _ k => e_aload_n dX9_page_165 rfl (i := 0) (x := a) rfl (e_getr dX9_page_166 flX9_33 (kd9_0 h_a) rfl (rf9_0_3 h_a) (e_iload_n dX9_page_169 rfl (i := 1) (x := i0) rfl (e_aload_n dX9_page_170 rfl (i := 3) (x := (a + 2)) rfl (e_getr dX9_page_171 flX9_119 (kd9_2 h_a) rfl (rf9_2_3 h_a) k))))) ?_
        refine ev_callV (As := [xI i0, xR (a + 13)]) (st := []) (fun v26 => [xI v26]) dX9_page_174 mlX9_366 (kd9_314 h_a) rfl rfl rfl rfl rfl rfl (c_X2_takenOn (d := d + 2) (sb9_314_2 h_a) (sb9_13_4 h_a) i0) (fun _ => trivial) (fun _ => rfl) (fun v26 => ?_)
        exact ev_ret (e_iret dX9_page_177)
      refine ev_st (pc' := 178) (L' := [xR a, xI i0, xI i1, xR (a + 2)]) (st' := []) (fun _ _ _ k => e_tout dX9_page_39 (tgt := 178) (by omega) rfl k) ?_
      exact ev_ret (e_iconst dX9_page_178 (k4 rfl) (e_iret dX9_page_179))
    · exact ev_ret (e_iconst dX9_page_36 (k4 rfl) (e_iret dX9_page_37))
  · exact ev_ret (e_bipush dX9_page_18 rfl (k4 rfl) (e_iret dX9_page_20))
