def f_X10_readsNeeds (a : Nat) (i0 : Int) (R : xN) : Option (Bool × xN) :=
  xlet (xup R a 25 0) (fun R1 =>
  if i0 = 3764 then
  xlet (R1 a 18) (fun x3 =>
  (f_X10_edgeWord a R1).bind (fun v4 =>
  xlet (xup v4.2 (a + 13) 0 v4.1) (fun R5 =>
  if (R5 (a + 13) 0) < 0 then
  xlet (xup R5 a 18 x3) (fun R7 =>
  (f_X10_next a R7).bind (fun v8 =>
  some (false, v8)))
  else
  if i0 = 3764 then
  some (true, R5)
  else
  if (R5 (a + 13) 0) = 0 then
  some (true, R5)
  else
  if (R5 (a + 13) 0) = 2 then
  some (true, R5)
  else
  xlet (xup R5 a 18 x3) (fun R12 =>
  (f_X10_next a R12).bind (fun v13 =>
  some (false, v13))))))
  else
  if i0 = 20456901 then
  xlet (R1 a 18) (fun x15 =>
  (f_X10_edgeWord a R1).bind (fun v16 =>
  xlet (xup v16.2 (a + 13) 0 v16.1) (fun R17 =>
  if (R17 (a + 13) 0) < 0 then
  xlet (xup R17 a 18 x15) (fun R19 =>
  (f_X10_next a R19).bind (fun v20 =>
  some (false, v20)))
  else
  if i0 = 3764 then
  some (true, R17)
  else
  if (R17 (a + 13) 0) = 0 then
  some (true, R17)
  else
  if (R17 (a + 13) 0) = 2 then
  some (true, R17)
  else
  xlet (xup R17 a 18 x15) (fun R24 =>
  (f_X10_next a R24).bind (fun v25 =>
  some (false, v25))))))
  else
  if i0 = 474757 then
  (f_X10_numbers a 3 3 R1).bind (fun v27 =>
  if v27.1 = true then
  if (v27.2 a 21) = 24395141 then
  xlet (xup v27.2 a 25 1) (fun R30 =>
  if (R30 a 25) = 0 then
  some (v27.1, R30)
  else
  (f_X10_next a R30).bind (fun v32 =>
  some (v27.1, v32)))
  else
  xlet (xup v27.2 a 25 0) (fun R33 =>
  if (R33 a 25) = 0 then
  some (v27.1, R33)
  else
  (f_X10_next a R33).bind (fun v35 =>
  some (v27.1, v35)))
  else
  xlet (xup v27.2 a 25 0) (fun R36 =>
  if (R36 a 25) = 0 then
  some (v27.1, R36)
  else
  (f_X10_next a R36).bind (fun v38 =>
  some (v27.1, v38))))
  else
  if i0 = 212356 then
  (f_X10_numbers a 1 4 R1).bind (fun v40 =>
  some (v40.1, v40.2))
  else
  if i0 = 20190388 then
  (f_X10_numbers a 2 2 R1).bind (fun v42 =>
  some (v42.1, v42.2))
  else
  if i0 = 719535492 then
  (f_X10_numbers a 0 0 R1).bind (fun v44 =>
  some (v44.1, v44.2))
  else
  (f_X10_numbers a 1 1 R1).bind (fun v45 =>
  some (v45.1, v45.2)))
set_option maxRecDepth 20000 in
set_option maxHeartbeats 4000000 in
theorem c_X10_readsNeeds {l : Launch} {g : xG} {d : Nat} {A : xA} {R : xN} {a : Nat} (h_a : sh 10 A a) (i0 : Int) : Ev l g (d + 5) mX10_readsNeeds 0 [xR a, xL i0, xU, xU, xU] [] A R (fun v : Bool × xN => some (xI (xz v.1))) (fun v => v.2) (f_X10_readsNeeds a i0 R) := by
  rw [f_X10_readsNeeds]
  refine ev_st (pc' := 5) (L' := [xR a, xL i0, xU, xU, xU]) (st' := []) (fun _ _ _ k => e_aload_n dX10_readsNeeds_0 rfl (i := 0) (x := a) rfl (e_iconst dX10_readsNeeds_1 (k4 rfl) (e_putz dX10_readsNeeds_2 flX10_238 (kd10_0 h_a) (Or.inl rfl) rfl (Or.inl rfl) k))) ?_
  refine ev_letR (fun R1 eR1 => ?_)
  refine ev_st (pc' := 9) (L' := [xR a, xL i0, xU, xU, xU]) (st' := [xL 3764, xL i0]) (fun _ _ _ k => e_lload_n dX10_readsNeeds_5 rfl (i := 1) (x := i0) rfl (e_ldc2 dX10_readsNeeds_6 ckX10_241 (k8 rfl) k)) ?_
  refine ev_br2 (P := i0 = 3764) (pct := 21) (pcf := 13) (st' := []) (fun _ _ _ kt kf => e_lcmp dX10_readsNeeds_9 (e_leq dX10_readsNeeds_10 (tgt := 21) rfl kt kf)) (fun h2 => ?_) (fun h2 => ?_)
  · refine ev_st (pc' := 25) (L' := [xR a, xL i0, xU, xU, xU]) (st' := [xI (R1 a 18)]) (fun _ _ _ k => e_aload_n dX10_readsNeeds_21 rfl (i := 0) (x := a) rfl (e_geti dX10_readsNeeds_22 flX10_196 (kd10_0 h_a) (Or.inl rfl) k)) ?_
    refine ev_leti (fun x3 ex3 => ?_)
    refine ev_st (pc' := 26) (L' := [xR a, xL i0, xU, xI x3, xU]) (st' := []) (fun _ _ _ k => e_istore_n dX10_readsNeeds_25 rfl (i := 3) rfl (L' := [xR a, xL i0, xU, xI x3, xU]) rfl k) ?_
    refine ev_st (pc' := 32) (L' := [xR a, xL i0, xU, xI x3, xU]) (st' := [xR a, xI 0, xR (a + 13)]) (fun _ _ _ k => e_aload_n dX10_readsNeeds_26 rfl (i := 0) (x := a) rfl (e_getr dX10_readsNeeds_27 flX10_46 (kd10_0 h_a) rfl (rf10_0_23 h_a) (e_iconst dX10_readsNeeds_30 (k4 rfl) (e_aload_n dX10_readsNeeds_31 rfl (i := 0) (x := a) rfl k)))) ?_
    refine ev_callV (As := []) (st := [xI 0, xR (a + 13)]) (fun v4 => [xI v4.1, xI 0, xR (a + 13)]) dX10_readsNeeds_32 mlX10_245 (kd10_0 h_a) rfl rfl rfl rfl rfl rfl (c_X10_edgeWord (d := d) h_a) (fun _ => trivial) (fun _ => rfl) (fun v4 => ?_)
    refine ev_st (pc' := 36) (L' := [xR a, xL i0, xU, xI x3, xU]) (st' := []) (fun _ _ _ k => e_iast dX10_readsNeeds_35 (kd10_13 h_a) (by decide) (by decide) k) ?_
    refine ev_letR (fun R5 eR5 => ?_)
    refine ev_st (pc' := 42) (L' := [xR a, xL i0, xU, xI x3, xU]) (st' := [xI (R5 (a + 13) 0)]) (fun _ _ _ k => e_aload_n dX10_readsNeeds_36 rfl (i := 0) (x := a) rfl (e_getr dX10_readsNeeds_37 flX10_46 (kd10_0 h_a) rfl (rf10_0_23 h_a) (e_iconst dX10_readsNeeds_40 (k4 rfl) (e_iald dX10_readsNeeds_41 (kd10_13 h_a) (by decide) (by decide) k)))) ?_
    refine ev_br2 (P := (R5 (a + 13) 0) < 0) (pct := 76) (pcf := 45) (st' := []) (fun _ _ _ kt kf => e_iflt dX10_readsNeeds_42 (tgt := 76) rfl kt kf) (fun h6 => ?_) (fun h6 => ?_)
    · refine ev_st (pc' := 84) (L' := [xR a, xL i0, xU, xI x3, xI 0]) (st' := []) (fun _ _ _ k => e_iconst dX10_readsNeeds_76 (k4 rfl) (e_istore dX10_readsNeeds_77 (i := 4) rfl (L' := [xR a, xL i0, xU, xI x3, xI 0]) rfl (e_iload dX10_readsNeeds_79 (i := 4) (x := 0) rfl (e_ifneF dX10_readsNeeds_81 (tgt := 93) rfl (by decide) k)))) ?_
      refine ev_st (pc' := 89) (L' := [xR a, xL i0, xU, xI x3, xI 0]) (st' := []) (fun _ _ _ k => e_aload_n dX10_readsNeeds_84 rfl (i := 0) (x := a) rfl (e_iload_n dX10_readsNeeds_85 rfl (i := 3) (x := x3) rfl (e_puti dX10_readsNeeds_86 flX10_196 (kd10_0 h_a) (Or.inl rfl) rfl k))) ?_
      refine ev_letR (fun R7 eR7 => ?_)
      refine ev_st (pc' := 90) (L' := [xR a, xL i0, xU, xI x3, xI 0]) (st' := [xR a]) (fun _ _ _ k => e_aload_n dX10_readsNeeds_89 rfl (i := 0) (x := a) rfl k) ?_
      refine ev_callV (As := []) (st := []) (fun v8 => []) dX10_readsNeeds_90 mlX10_227 (kd10_0 h_a) rfl rfl rfl rfl rfl rfl (c_X10_next (d := d + 1) h_a) (fun _ => trivial) (fun _ => rfl) (fun v8 => ?_)
      exact ev_ret (e_iload dX10_readsNeeds_93 (i := 4) (x := 0) rfl (e_iret dX10_readsNeeds_95))
    · refine ev_st (pc' := 49) (L' := [xR a, xL i0, xU, xI x3, xU]) (st' := [xL 3764, xL i0]) (fun _ _ _ k => e_lload_n dX10_readsNeeds_45 rfl (i := 1) (x := i0) rfl (e_ldc2 dX10_readsNeeds_46 ckX10_241 (k8 rfl) k)) ?_
      refine ev_br2 (P := i0 = 3764) (pct := 72) (pcf := 53) (st' := []) (fun _ _ _ kt kf => e_lcmp dX10_readsNeeds_49 (e_leq dX10_readsNeeds_50 (tgt := 72) rfl kt kf)) (fun h9 => ?_) (fun h9 => ?_)
      · refine ev_st (pc' := 93) (L' := [xR a, xL i0, xU, xI x3, xI 1]) (st' := []) (fun _ _ _ k => e_iconst dX10_readsNeeds_72 (k4 rfl) (e_goto dX10_readsNeeds_73 (tgt := 77) rfl (e_istore dX10_readsNeeds_77 (i := 4) rfl (L' := [xR a, xL i0, xU, xI x3, xI 1]) rfl (e_iload dX10_readsNeeds_79 (i := 4) (x := 1) rfl (e_ifneT dX10_readsNeeds_81 (tgt := 93) rfl (by decide) k))))) ?_
        exact ev_ret (e_iload dX10_readsNeeds_93 (i := 4) (x := 1) rfl (e_iret dX10_readsNeeds_95))
      · refine ev_st (pc' := 59) (L' := [xR a, xL i0, xU, xI x3, xU]) (st' := [xI (R5 (a + 13) 0)]) (fun _ _ _ k => e_aload_n dX10_readsNeeds_53 rfl (i := 0) (x := a) rfl (e_getr dX10_readsNeeds_54 flX10_46 (kd10_0 h_a) rfl (rf10_0_23 h_a) (e_iconst dX10_readsNeeds_57 (k4 rfl) (e_iald dX10_readsNeeds_58 (kd10_13 h_a) (by decide) (by decide) k)))) ?_
        refine ev_br2 (P := (R5 (a + 13) 0) = 0) (pct := 72) (pcf := 62) (st' := []) (fun _ _ _ kt kf => e_ifeq dX10_readsNeeds_59 (tgt := 72) rfl kt kf) (fun h10 => ?_) (fun h10 => ?_)
        · refine ev_st (pc' := 93) (L' := [xR a, xL i0, xU, xI x3, xI 1]) (st' := []) (fun _ _ _ k => e_iconst dX10_readsNeeds_72 (k4 rfl) (e_goto dX10_readsNeeds_73 (tgt := 77) rfl (e_istore dX10_readsNeeds_77 (i := 4) rfl (L' := [xR a, xL i0, xU, xI x3, xI 1]) rfl (e_iload dX10_readsNeeds_79 (i := 4) (x := 1) rfl (e_ifneT dX10_readsNeeds_81 (tgt := 93) rfl (by decide) k))))) ?_
          exact ev_ret (e_iload dX10_readsNeeds_93 (i := 4) (x := 1) rfl (e_iret dX10_readsNeeds_95))
        · refine ev_st (pc' := 69) (L' := [xR a, xL i0, xU, xI x3, xU]) (st' := [xI 2, xI (R5 (a + 13) 0)]) (fun _ _ _ k => e_aload_n dX10_readsNeeds_62 rfl (i := 0) (x := a) rfl (e_getr dX10_readsNeeds_63 flX10_46 (kd10_0 h_a) rfl (rf10_0_23 h_a) (e_iconst dX10_readsNeeds_66 (k4 rfl) (e_iald dX10_readsNeeds_67 (kd10_13 h_a) (by decide) (by decide) (e_iconst dX10_readsNeeds_68 (k4 rfl) k))))) ?_
          refine ev_br2 (P := (R5 (a + 13) 0) = 2) (pct := 72) (pcf := 76) (st' := []) (fun _ _ _ kt kf => e_cne dX10_readsNeeds_69 (tgt := 76) rfl kt kf) (fun h11 => ?_) (fun h11 => ?_)
          · refine ev_st (pc' := 93) (L' := [xR a, xL i0, xU, xI x3, xI 1]) (st' := []) (fun _ _ _ k => e_iconst dX10_readsNeeds_72 (k4 rfl) (e_goto dX10_readsNeeds_73 (tgt := 77) rfl (e_istore dX10_readsNeeds_77 (i := 4) rfl (L' := [xR a, xL i0, xU, xI x3, xI 1]) rfl (e_iload dX10_readsNeeds_79 (i := 4) (x := 1) rfl (e_ifneT dX10_readsNeeds_81 (tgt := 93) rfl (by decide) k))))) ?_
            exact ev_ret (e_iload dX10_readsNeeds_93 (i := 4) (x := 1) rfl (e_iret dX10_readsNeeds_95))
          · refine ev_st (pc' := 84) (L' := [xR a, xL i0, xU, xI x3, xI 0]) (st' := []) (fun _ _ _ k => e_iconst dX10_readsNeeds_76 (k4 rfl) (e_istore dX10_readsNeeds_77 (i := 4) rfl (L' := [xR a, xL i0, xU, xI x3, xI 0]) rfl (e_iload dX10_readsNeeds_79 (i := 4) (x := 0) rfl (e_ifneF dX10_readsNeeds_81 (tgt := 93) rfl (by decide) k)))) ?_
            refine ev_st (pc' := 89) (L' := [xR a, xL i0, xU, xI x3, xI 0]) (st' := []) (fun _ _ _ k => e_aload_n dX10_readsNeeds_84 rfl (i := 0) (x := a) rfl (e_iload_n dX10_readsNeeds_85 rfl (i := 3) (x := x3) rfl (e_puti dX10_readsNeeds_86 flX10_196 (kd10_0 h_a) (Or.inl rfl) rfl k))) ?_
            refine ev_letR (fun R12 eR12 => ?_)
            refine ev_st (pc' := 90) (L' := [xR a, xL i0, xU, xI x3, xI 0]) (st' := [xR a]) (fun _ _ _ k => e_aload_n dX10_readsNeeds_89 rfl (i := 0) (x := a) rfl k) ?_
            refine ev_callV (As := []) (st := []) (fun v13 => []) dX10_readsNeeds_90 mlX10_227 (kd10_0 h_a) rfl rfl rfl rfl rfl rfl (c_X10_next (d := d + 1) h_a) (fun _ => trivial) (fun _ => rfl) (fun v13 => ?_)
            exact ev_ret (e_iload dX10_readsNeeds_93 (i := 4) (x := 0) rfl (e_iret dX10_readsNeeds_95))
  · refine ev_st (pc' := 17) (L' := [xR a, xL i0, xU, xU, xU]) (st' := [xL 20456901, xL i0]) (fun _ _ _ k => e_lload_n dX10_readsNeeds_13 rfl (i := 1) (x := i0) rfl (e_ldc2 dX10_readsNeeds_14 ckX10_243 (k8 rfl) k)) ?_
    refine ev_br2 (P := i0 = 20456901) (pct := 21) (pcf := 96) (st' := []) (fun _ _ _ kt kf => e_lcmp dX10_readsNeeds_17 (e_lne dX10_readsNeeds_18 (tgt := 96) rfl kt kf)) (fun h14 => ?_) (fun h14 => ?_)
    · refine ev_st (pc' := 25) (L' := [xR a, xL i0, xU, xU, xU]) (st' := [xI (R1 a 18)]) (fun _ _ _ k => e_aload_n dX10_readsNeeds_21 rfl (i := 0) (x := a) rfl (e_geti dX10_readsNeeds_22 flX10_196 (kd10_0 h_a) (Or.inl rfl) k)) ?_
      refine ev_leti (fun x15 ex15 => ?_)
      refine ev_st (pc' := 26) (L' := [xR a, xL i0, xU, xI x15, xU]) (st' := []) (fun _ _ _ k => e_istore_n dX10_readsNeeds_25 rfl (i := 3) rfl (L' := [xR a, xL i0, xU, xI x15, xU]) rfl k) ?_
      refine ev_st (pc' := 32) (L' := [xR a, xL i0, xU, xI x15, xU]) (st' := [xR a, xI 0, xR (a + 13)]) (fun _ _ _ k => e_aload_n dX10_readsNeeds_26 rfl (i := 0) (x := a) rfl (e_getr dX10_readsNeeds_27 flX10_46 (kd10_0 h_a) rfl (rf10_0_23 h_a) (e_iconst dX10_readsNeeds_30 (k4 rfl) (e_aload_n dX10_readsNeeds_31 rfl (i := 0) (x := a) rfl k)))) ?_
      refine ev_callV (As := []) (st := [xI 0, xR (a + 13)]) (fun v16 => [xI v16.1, xI 0, xR (a + 13)]) dX10_readsNeeds_32 mlX10_245 (kd10_0 h_a) rfl rfl rfl rfl rfl rfl (c_X10_edgeWord (d := d) h_a) (fun _ => trivial) (fun _ => rfl) (fun v16 => ?_)
      refine ev_st (pc' := 36) (L' := [xR a, xL i0, xU, xI x15, xU]) (st' := []) (fun _ _ _ k => e_iast dX10_readsNeeds_35 (kd10_13 h_a) (by decide) (by decide) k) ?_
      refine ev_letR (fun R17 eR17 => ?_)
      refine ev_st (pc' := 42) (L' := [xR a, xL i0, xU, xI x15, xU]) (st' := [xI (R17 (a + 13) 0)]) (fun _ _ _ k => e_aload_n dX10_readsNeeds_36 rfl (i := 0) (x := a) rfl (e_getr dX10_readsNeeds_37 flX10_46 (kd10_0 h_a) rfl (rf10_0_23 h_a) (e_iconst dX10_readsNeeds_40 (k4 rfl) (e_iald dX10_readsNeeds_41 (kd10_13 h_a) (by decide) (by decide) k)))) ?_
      refine ev_br2 (P := (R17 (a + 13) 0) < 0) (pct := 76) (pcf := 45) (st' := []) (fun _ _ _ kt kf => e_iflt dX10_readsNeeds_42 (tgt := 76) rfl kt kf) (fun h18 => ?_) (fun h18 => ?_)
      · refine ev_st (pc' := 84) (L' := [xR a, xL i0, xU, xI x15, xI 0]) (st' := []) (fun _ _ _ k => e_iconst dX10_readsNeeds_76 (k4 rfl) (e_istore dX10_readsNeeds_77 (i := 4) rfl (L' := [xR a, xL i0, xU, xI x15, xI 0]) rfl (e_iload dX10_readsNeeds_79 (i := 4) (x := 0) rfl (e_ifneF dX10_readsNeeds_81 (tgt := 93) rfl (by decide) k)))) ?_
        refine ev_st (pc' := 89) (L' := [xR a, xL i0, xU, xI x15, xI 0]) (st' := []) (fun _ _ _ k => e_aload_n dX10_readsNeeds_84 rfl (i := 0) (x := a) rfl (e_iload_n dX10_readsNeeds_85 rfl (i := 3) (x := x15) rfl (e_puti dX10_readsNeeds_86 flX10_196 (kd10_0 h_a) (Or.inl rfl) rfl k))) ?_
        refine ev_letR (fun R19 eR19 => ?_)
        refine ev_st (pc' := 90) (L' := [xR a, xL i0, xU, xI x15, xI 0]) (st' := [xR a]) (fun _ _ _ k => e_aload_n dX10_readsNeeds_89 rfl (i := 0) (x := a) rfl k) ?_
        refine ev_callV (As := []) (st := []) (fun v20 => []) dX10_readsNeeds_90 mlX10_227 (kd10_0 h_a) rfl rfl rfl rfl rfl rfl (c_X10_next (d := d + 1) h_a) (fun _ => trivial) (fun _ => rfl) (fun v20 => ?_)
        exact ev_ret (e_iload dX10_readsNeeds_93 (i := 4) (x := 0) rfl (e_iret dX10_readsNeeds_95))
      · refine ev_st (pc' := 49) (L' := [xR a, xL i0, xU, xI x15, xU]) (st' := [xL 3764, xL i0]) (fun _ _ _ k => e_lload_n dX10_readsNeeds_45 rfl (i := 1) (x := i0) rfl (e_ldc2 dX10_readsNeeds_46 ckX10_241 (k8 rfl) k)) ?_
        refine ev_br2 (P := i0 = 3764) (pct := 72) (pcf := 53) (st' := []) (fun _ _ _ kt kf => e_lcmp dX10_readsNeeds_49 (e_leq dX10_readsNeeds_50 (tgt := 72) rfl kt kf)) (fun h21 => ?_) (fun h21 => ?_)
        · refine ev_st (pc' := 93) (L' := [xR a, xL i0, xU, xI x15, xI 1]) (st' := []) (fun _ _ _ k => e_iconst dX10_readsNeeds_72 (k4 rfl) (e_goto dX10_readsNeeds_73 (tgt := 77) rfl (e_istore dX10_readsNeeds_77 (i := 4) rfl (L' := [xR a, xL i0, xU, xI x15, xI 1]) rfl (e_iload dX10_readsNeeds_79 (i := 4) (x := 1) rfl (e_ifneT dX10_readsNeeds_81 (tgt := 93) rfl (by decide) k))))) ?_
          exact ev_ret (e_iload dX10_readsNeeds_93 (i := 4) (x := 1) rfl (e_iret dX10_readsNeeds_95))
        · refine ev_st (pc' := 59) (L' := [xR a, xL i0, xU, xI x15, xU]) (st' := [xI (R17 (a + 13) 0)]) (fun _ _ _ k => e_aload_n dX10_readsNeeds_53 rfl (i := 0) (x := a) rfl (e_getr dX10_readsNeeds_54 flX10_46 (kd10_0 h_a) rfl (rf10_0_23 h_a) (e_iconst dX10_readsNeeds_57 (k4 rfl) (e_iald dX10_readsNeeds_58 (kd10_13 h_a) (by decide) (by decide) k)))) ?_
          refine ev_br2 (P := (R17 (a + 13) 0) = 0) (pct := 72) (pcf := 62) (st' := []) (fun _ _ _ kt kf => e_ifeq dX10_readsNeeds_59 (tgt := 72) rfl kt kf) (fun h22 => ?_) (fun h22 => ?_)
          · refine ev_st (pc' := 93) (L' := [xR a, xL i0, xU, xI x15, xI 1]) (st' := []) (fun _ _ _ k => e_iconst dX10_readsNeeds_72 (k4 rfl) (e_goto dX10_readsNeeds_73 (tgt := 77) rfl (e_istore dX10_readsNeeds_77 (i := 4) rfl (L' := [xR a, xL i0, xU, xI x15, xI 1]) rfl (e_iload dX10_readsNeeds_79 (i := 4) (x := 1) rfl (e_ifneT dX10_readsNeeds_81 (tgt := 93) rfl (by decide) k))))) ?_
            exact ev_ret (e_iload dX10_readsNeeds_93 (i := 4) (x := 1) rfl (e_iret dX10_readsNeeds_95))
          · refine ev_st (pc' := 69) (L' := [xR a, xL i0, xU, xI x15, xU]) (st' := [xI 2, xI (R17 (a + 13) 0)]) (fun _ _ _ k => e_aload_n dX10_readsNeeds_62 rfl (i := 0) (x := a) rfl (e_getr dX10_readsNeeds_63 flX10_46 (kd10_0 h_a) rfl (rf10_0_23 h_a) (e_iconst dX10_readsNeeds_66 (k4 rfl) (e_iald dX10_readsNeeds_67 (kd10_13 h_a) (by decide) (by decide) (e_iconst dX10_readsNeeds_68 (k4 rfl) k))))) ?_
            refine ev_br2 (P := (R17 (a + 13) 0) = 2) (pct := 72) (pcf := 76) (st' := []) (fun _ _ _ kt kf => e_cne dX10_readsNeeds_69 (tgt := 76) rfl kt kf) (fun h23 => ?_) (fun h23 => ?_)
            · refine ev_st (pc' := 93) (L' := [xR a, xL i0, xU, xI x15, xI 1]) (st' := []) (fun _ _ _ k => e_iconst dX10_readsNeeds_72 (k4 rfl) (e_goto dX10_readsNeeds_73 (tgt := 77) rfl (e_istore dX10_readsNeeds_77 (i := 4) rfl (L' := [xR a, xL i0, xU, xI x15, xI 1]) rfl (e_iload dX10_readsNeeds_79 (i := 4) (x := 1) rfl (e_ifneT dX10_readsNeeds_81 (tgt := 93) rfl (by decide) k))))) ?_
              exact ev_ret (e_iload dX10_readsNeeds_93 (i := 4) (x := 1) rfl (e_iret dX10_readsNeeds_95))
            · refine ev_st (pc' := 84) (L' := [xR a, xL i0, xU, xI x15, xI 0]) (st' := []) (fun _ _ _ k => e_iconst dX10_readsNeeds_76 (k4 rfl) (e_istore dX10_readsNeeds_77 (i := 4) rfl (L' := [xR a, xL i0, xU, xI x15, xI 0]) rfl (e_iload dX10_readsNeeds_79 (i := 4) (x := 0) rfl (e_ifneF dX10_readsNeeds_81 (tgt := 93) rfl (by decide) k)))) ?_
              refine ev_st (pc' := 89) (L' := [xR a, xL i0, xU, xI x15, xI 0]) (st' := []) (fun _ _ _ k => e_aload_n dX10_readsNeeds_84 rfl (i := 0) (x := a) rfl (e_iload_n dX10_readsNeeds_85 rfl (i := 3) (x := x15) rfl (e_puti dX10_readsNeeds_86 flX10_196 (kd10_0 h_a) (Or.inl rfl) rfl k))) ?_
              refine ev_letR (fun R24 eR24 => ?_)
              refine ev_st (pc' := 90) (L' := [xR a, xL i0, xU, xI x15, xI 0]) (st' := [xR a]) (fun _ _ _ k => e_aload_n dX10_readsNeeds_89 rfl (i := 0) (x := a) rfl k) ?_
              refine ev_callV (As := []) (st := []) (fun v25 => []) dX10_readsNeeds_90 mlX10_227 (kd10_0 h_a) rfl rfl rfl rfl rfl rfl (c_X10_next (d := d + 1) h_a) (fun _ => trivial) (fun _ => rfl) (fun v25 => ?_)
              exact ev_ret (e_iload dX10_readsNeeds_93 (i := 4) (x := 0) rfl (e_iret dX10_readsNeeds_95))
    · refine ev_st (pc' := 100) (L' := [xR a, xL i0, xU, xU, xU]) (st' := [xL 474757, xL i0]) (fun _ _ _ k => e_lload_n dX10_readsNeeds_96 rfl (i := 1) (x := i0) rfl (e_ldc2 dX10_readsNeeds_97 ckX10_248 (k8 rfl) k)) ?_
      refine ev_br2 (P := i0 = 474757) (pct := 104) (pcf := 148) (st' := []) (fun _ _ _ kt kf => e_lcmp dX10_readsNeeds_100 (e_lne dX10_readsNeeds_101 (tgt := 148) rfl kt kf)) (fun h26 => ?_) (fun h26 => ?_)
      · refine ev_st (pc' := 107) (L' := [xR a, xL i0, xU, xU, xU]) (st' := [xI 3, xI 3, xR a]) (fun _ _ _ k => e_aload_n dX10_readsNeeds_104 rfl (i := 0) (x := a) rfl (e_iconst dX10_readsNeeds_105 (k4 rfl) (e_iconst dX10_readsNeeds_106 (k4 rfl) k))) ?_
        refine ev_callV (As := [xI 3, xI 3]) (st := []) (fun v27 => [xI (xz v27.1)]) dX10_readsNeeds_107 mlX10_250 (kd10_0 h_a) rfl rfl rfl rfl rfl rfl (c_X10_numbers (d := d) h_a 3 3) (fun _ => xz01 _) (fun _ => rfl) (fun v27 => ?_)
        refine ev_st (pc' := 113) (L' := [xR a, xL i0, xU, xI (xz v27.1), xU]) (st' := [xI (xz v27.1), xR a]) (fun _ _ _ k => e_istore_n dX10_readsNeeds_110 rfl (i := 3) rfl (L' := [xR a, xL i0, xU, xI (xz v27.1), xU]) rfl (e_aload_n dX10_readsNeeds_111 rfl (i := 0) (x := a) rfl (e_iload_n dX10_readsNeeds_112 rfl (i := 3) (x := (xz v27.1)) rfl k))) ?_
        refine ev_br2 (P := v27.1 = true) (pct := 116) (pcf := 131) (st' := [xR a]) (fun _ _ _ kt kf => e_ifeqz dX10_readsNeeds_113 (tgt := 131) rfl kt kf) (fun h28 => ?_) (fun h28 => ?_)
        · refine ev_st (pc' := 123) (L' := [xR a, xL i0, xU, xI (xz v27.1), xU]) (st' := [xL 24395141, xL (v27.2 a 21), xR a]) (fun _ _ _ k => e_aload_n dX10_readsNeeds_116 rfl (i := 0) (x := a) rfl (e_getl dX10_readsNeeds_117 flX10_192 (kd10_0 h_a) rfl (e_ldc2 dX10_readsNeeds_120 ckX10_253 (k8 rfl) k))) ?_
          refine ev_br2 (P := (v27.2 a 21) = 24395141) (pct := 127) (pcf := 131) (st' := [xR a]) (fun _ _ _ kt kf => e_lcmp dX10_readsNeeds_123 (e_lne dX10_readsNeeds_124 (tgt := 131) rfl kt kf)) (fun h29 => ?_) (fun h29 => ?_)
          · refine ev_st (pc' := 135) (L' := [xR a, xL i0, xU, xI (xz v27.1), xU]) (st' := []) (fun _ _ _ k => e_iconst dX10_readsNeeds_127 (k4 rfl) (e_goto dX10_readsNeeds_128 (tgt := 132) rfl (e_putz dX10_readsNeeds_132 flX10_238 (kd10_0 h_a) (Or.inl rfl) rfl (Or.inr rfl) k))) ?_
            refine ev_letR (fun R30 eR30 => ?_)
            refine ev_st (pc' := 139) (L' := [xR a, xL i0, xU, xI (xz v27.1), xU]) (st' := [xI (R30 a 25)]) (fun _ _ _ k => e_aload_n dX10_readsNeeds_135 rfl (i := 0) (x := a) rfl (e_geti dX10_readsNeeds_136 flX10_238 (kd10_0 h_a) (Or.inr rfl) k)) ?_
            refine ev_br2 (P := (R30 a 25) = 0) (pct := 146) (pcf := 142) (st' := []) (fun _ _ _ kt kf => e_ifeq dX10_readsNeeds_139 (tgt := 146) rfl kt kf) (fun h31 => ?_) (fun h31 => ?_)
            · exact ev_ret (e_iload_n dX10_readsNeeds_146 rfl (i := 3) (x := (xz v27.1)) rfl (e_iret dX10_readsNeeds_147))
            · refine ev_st (pc' := 143) (L' := [xR a, xL i0, xU, xI (xz v27.1), xU]) (st' := [xR a]) (fun _ _ _ k => e_aload_n dX10_readsNeeds_142 rfl (i := 0) (x := a) rfl k) ?_
              refine ev_callV (As := []) (st := []) (fun v32 => []) dX10_readsNeeds_143 mlX10_227 (kd10_0 h_a) rfl rfl rfl rfl rfl rfl (c_X10_next (d := d + 1) h_a) (fun _ => trivial) (fun _ => rfl) (fun v32 => ?_)
              exact ev_ret (e_iload_n dX10_readsNeeds_146 rfl (i := 3) (x := (xz v27.1)) rfl (e_iret dX10_readsNeeds_147))
          · refine ev_st (pc' := 135) (L' := [xR a, xL i0, xU, xI (xz v27.1), xU]) (st' := []) (fun _ _ _ k => e_iconst dX10_readsNeeds_131 (k4 rfl) (e_putz dX10_readsNeeds_132 flX10_238 (kd10_0 h_a) (Or.inl rfl) rfl (Or.inl rfl) k)) ?_
            refine ev_letR (fun R33 eR33 => ?_)
            refine ev_st (pc' := 139) (L' := [xR a, xL i0, xU, xI (xz v27.1), xU]) (st' := [xI (R33 a 25)]) (fun _ _ _ k => e_aload_n dX10_readsNeeds_135 rfl (i := 0) (x := a) rfl (e_geti dX10_readsNeeds_136 flX10_238 (kd10_0 h_a) (Or.inr rfl) k)) ?_
            refine ev_br2 (P := (R33 a 25) = 0) (pct := 146) (pcf := 142) (st' := []) (fun _ _ _ kt kf => e_ifeq dX10_readsNeeds_139 (tgt := 146) rfl kt kf) (fun h34 => ?_) (fun h34 => ?_)
            · exact ev_ret (e_iload_n dX10_readsNeeds_146 rfl (i := 3) (x := (xz v27.1)) rfl (e_iret dX10_readsNeeds_147))
            · refine ev_st (pc' := 143) (L' := [xR a, xL i0, xU, xI (xz v27.1), xU]) (st' := [xR a]) (fun _ _ _ k => e_aload_n dX10_readsNeeds_142 rfl (i := 0) (x := a) rfl k) ?_
              refine ev_callV (As := []) (st := []) (fun v35 => []) dX10_readsNeeds_143 mlX10_227 (kd10_0 h_a) rfl rfl rfl rfl rfl rfl (c_X10_next (d := d + 1) h_a) (fun _ => trivial) (fun _ => rfl) (fun v35 => ?_)
              exact ev_ret (e_iload_n dX10_readsNeeds_146 rfl (i := 3) (x := (xz v27.1)) rfl (e_iret dX10_readsNeeds_147))
        · refine ev_st (pc' := 135) (L' := [xR a, xL i0, xU, xI (xz v27.1), xU]) (st' := []) (fun _ _ _ k => e_iconst dX10_readsNeeds_131 (k4 rfl) (e_putz dX10_readsNeeds_132 flX10_238 (kd10_0 h_a) (Or.inl rfl) rfl (Or.inl rfl) k)) ?_
          refine ev_letR (fun R36 eR36 => ?_)
          refine ev_st (pc' := 139) (L' := [xR a, xL i0, xU, xI (xz v27.1), xU]) (st' := [xI (R36 a 25)]) (fun _ _ _ k => e_aload_n dX10_readsNeeds_135 rfl (i := 0) (x := a) rfl (e_geti dX10_readsNeeds_136 flX10_238 (kd10_0 h_a) (Or.inr rfl) k)) ?_
          refine ev_br2 (P := (R36 a 25) = 0) (pct := 146) (pcf := 142) (st' := []) (fun _ _ _ kt kf => e_ifeq dX10_readsNeeds_139 (tgt := 146) rfl kt kf) (fun h37 => ?_) (fun h37 => ?_)
          · exact ev_ret (e_iload_n dX10_readsNeeds_146 rfl (i := 3) (x := (xz v27.1)) rfl (e_iret dX10_readsNeeds_147))
          · refine ev_st (pc' := 143) (L' := [xR a, xL i0, xU, xI (xz v27.1), xU]) (st' := [xR a]) (fun _ _ _ k => e_aload_n dX10_readsNeeds_142 rfl (i := 0) (x := a) rfl k) ?_
            refine ev_callV (As := []) (st := []) (fun v38 => []) dX10_readsNeeds_143 mlX10_227 (kd10_0 h_a) rfl rfl rfl rfl rfl rfl (c_X10_next (d := d + 1) h_a) (fun _ => trivial) (fun _ => rfl) (fun v38 => ?_)
            exact ev_ret (e_iload_n dX10_readsNeeds_146 rfl (i := 3) (x := (xz v27.1)) rfl (e_iret dX10_readsNeeds_147))
      · refine ev_st (pc' := 152) (L' := [xR a, xL i0, xU, xU, xU]) (st' := [xL 212356, xL i0]) (fun _ _ _ k => e_lload_n dX10_readsNeeds_148 rfl (i := 1) (x := i0) rfl (e_ldc2 dX10_readsNeeds_149 ckX10_255 (k8 rfl) k)) ?_
        refine ev_br2 (P := i0 = 212356) (pct := 156) (pcf := 163) (st' := []) (fun _ _ _ kt kf => e_lcmp dX10_readsNeeds_152 (e_lne dX10_readsNeeds_153 (tgt := 163) rfl kt kf)) (fun h39 => ?_) (fun h39 => ?_)
        · refine ev_st (pc' := 159) (L' := [xR a, xL i0, xU, xU, xU]) (st' := [xI 4, xI 1, xR a]) (fun _ _ _ k => e_aload_n dX10_readsNeeds_156 rfl (i := 0) (x := a) rfl (e_iconst dX10_readsNeeds_157 (k4 rfl) (e_iconst dX10_readsNeeds_158 (k4 rfl) k))) ?_
          refine ev_callV (As := [xI 1, xI 4]) (st := []) (fun v40 => [xI (xz v40.1)]) dX10_readsNeeds_159 mlX10_250 (kd10_0 h_a) rfl rfl rfl rfl rfl rfl (c_X10_numbers (d := d) h_a 1 4) (fun _ => xz01 _) (fun _ => rfl) (fun v40 => ?_)
          exact ev_ret (e_iret dX10_readsNeeds_162)
        · refine ev_st (pc' := 167) (L' := [xR a, xL i0, xU, xU, xU]) (st' := [xL 20190388, xL i0]) (fun _ _ _ k => e_lload_n dX10_readsNeeds_163 rfl (i := 1) (x := i0) rfl (e_ldc2 dX10_readsNeeds_164 ckX10_257 (k8 rfl) k)) ?_
          refine ev_br2 (P := i0 = 20190388) (pct := 171) (pcf := 175) (st' := []) (fun _ _ _ kt kf => e_lcmp dX10_readsNeeds_167 (e_lne dX10_readsNeeds_168 (tgt := 175) rfl kt kf)) (fun h41 => ?_) (fun h41 => ?_)
          · refine ev_st (pc' := 192) (L' := [xR a, xL i0, xU, xI 2, xU]) (st' := [xI 2, xI 2, xR a]) (fun _ _ _ k => e_iconst dX10_readsNeeds_171 (k4 rfl) (e_goto dX10_readsNeeds_172 (tgt := 188) rfl (e_istore_n dX10_readsNeeds_188 rfl (i := 3) rfl (L' := [xR a, xL i0, xU, xI 2, xU]) rfl (e_aload_n dX10_readsNeeds_189 rfl (i := 0) (x := a) rfl (e_iload_n dX10_readsNeeds_190 rfl (i := 3) (x := 2) rfl (e_iload_n dX10_readsNeeds_191 rfl (i := 3) (x := 2) rfl k)))))) ?_
            refine ev_callV (As := [xI 2, xI 2]) (st := []) (fun v42 => [xI (xz v42.1)]) dX10_readsNeeds_192 mlX10_250 (kd10_0 h_a) rfl rfl rfl rfl rfl rfl (c_X10_numbers (d := d) h_a 2 2) (fun _ => xz01 _) (fun _ => rfl) (fun v42 => ?_)
            exact ev_ret (e_iret dX10_readsNeeds_195)
          · refine ev_st (pc' := 179) (L' := [xR a, xL i0, xU, xU, xU]) (st' := [xL 719535492, xL i0]) (fun _ _ _ k => e_lload_n dX10_readsNeeds_175 rfl (i := 1) (x := i0) rfl (e_ldc2 dX10_readsNeeds_176 ckX10_259 (k8 rfl) k)) ?_
            refine ev_br2 (P := i0 = 719535492) (pct := 183) (pcf := 187) (st' := []) (fun _ _ _ kt kf => e_lcmp dX10_readsNeeds_179 (e_lne dX10_readsNeeds_180 (tgt := 187) rfl kt kf)) (fun h43 => ?_) (fun h43 => ?_)
            · refine ev_st (pc' := 192) (L' := [xR a, xL i0, xU, xI 0, xU]) (st' := [xI 0, xI 0, xR a]) (fun _ _ _ k => e_iconst dX10_readsNeeds_183 (k4 rfl) (e_goto dX10_readsNeeds_184 (tgt := 188) rfl (e_istore_n dX10_readsNeeds_188 rfl (i := 3) rfl (L' := [xR a, xL i0, xU, xI 0, xU]) rfl (e_aload_n dX10_readsNeeds_189 rfl (i := 0) (x := a) rfl (e_iload_n dX10_readsNeeds_190 rfl (i := 3) (x := 0) rfl (e_iload_n dX10_readsNeeds_191 rfl (i := 3) (x := 0) rfl k)))))) ?_
              refine ev_callV (As := [xI 0, xI 0]) (st := []) (fun v44 => [xI (xz v44.1)]) dX10_readsNeeds_192 mlX10_250 (kd10_0 h_a) rfl rfl rfl rfl rfl rfl (c_X10_numbers (d := d) h_a 0 0) (fun _ => xz01 _) (fun _ => rfl) (fun v44 => ?_)
              exact ev_ret (e_iret dX10_readsNeeds_195)
            · refine ev_st (pc' := 192) (L' := [xR a, xL i0, xU, xI 1, xU]) (st' := [xI 1, xI 1, xR a]) (fun _ _ _ k => e_iconst dX10_readsNeeds_187 (k4 rfl) (e_istore_n dX10_readsNeeds_188 rfl (i := 3) rfl (L' := [xR a, xL i0, xU, xI 1, xU]) rfl (e_aload_n dX10_readsNeeds_189 rfl (i := 0) (x := a) rfl (e_iload_n dX10_readsNeeds_190 rfl (i := 3) (x := 1) rfl (e_iload_n dX10_readsNeeds_191 rfl (i := 3) (x := 1) rfl k))))) ?_
              refine ev_callV (As := [xI 1, xI 1]) (st := []) (fun v45 => [xI (xz v45.1)]) dX10_readsNeeds_192 mlX10_250 (kd10_0 h_a) rfl rfl rfl rfl rfl rfl (c_X10_numbers (d := d) h_a 1 1) (fun _ => xz01 _) (fun _ => rfl) (fun v45 => ?_)
              exact ev_ret (e_iret dX10_readsNeeds_195)
def f_X10_isCommand (i0 : Int) (R : xN) : Option (Bool) :=
  if i0 = 20190388 then
  some true
  else
  if i0 = 212356 then
  some true
  else
  if i0 = 719535492 then
  some true
  else
  if i0 = 20456901 then
  some true
  else
  if i0 = 17376724 then
  some true
  else
  if i0 = 3764 then
  some true
  else
  if i0 = 658555269 then
  some true
  else
  if i0 = 474757 then
  some true
  else
  if i0 = 12892339 then
  some true
  else
  some false
set_option maxRecDepth 20000 in
set_option maxHeartbeats 4000000 in
theorem c_X10_isCommand {l : Launch} {g : xG} {d : Nat} {A : xA} {R : xN}  (i0 : Int) : Ev l g (d) mX10_isCommand 0 [xL i0, xU] [] A R (fun v : Bool => some (xI (xz v))) (fun _ => R) (f_X10_isCommand i0 R) := by
  rw [f_X10_isCommand]
  refine ev_st (pc' := 4) (L' := [xL i0, xU]) (st' := [xL 20190388, xL i0]) (fun _ _ _ k => e_lload_n dX10_isCommand_0 rfl (i := 0) (x := i0) rfl (e_ldc2 dX10_isCommand_1 ckX10_257 (k8 rfl) k)) ?_
  refine ev_br2 (P := i0 = 20190388) (pct := 72) (pcf := 8) (st' := []) (fun _ _ _ kt kf => e_lcmp dX10_isCommand_4 (e_leq dX10_isCommand_5 (tgt := 72) rfl kt kf)) (fun h1 => ?_) (fun h1 => ?_)
  · exact ev_ret (e_iconst dX10_isCommand_72 (k4 rfl) (e_goto dX10_isCommand_73 (tgt := 77) rfl (e_iret dX10_isCommand_77)))
  · refine ev_st (pc' := 12) (L' := [xL i0, xU]) (st' := [xL 212356, xL i0]) (fun _ _ _ k => e_lload_n dX10_isCommand_8 rfl (i := 0) (x := i0) rfl (e_ldc2 dX10_isCommand_9 ckX10_255 (k8 rfl) k)) ?_
    refine ev_br2 (P := i0 = 212356) (pct := 72) (pcf := 16) (st' := []) (fun _ _ _ kt kf => e_lcmp dX10_isCommand_12 (e_leq dX10_isCommand_13 (tgt := 72) rfl kt kf)) (fun h2 => ?_) (fun h2 => ?_)
    · exact ev_ret (e_iconst dX10_isCommand_72 (k4 rfl) (e_goto dX10_isCommand_73 (tgt := 77) rfl (e_iret dX10_isCommand_77)))
    · refine ev_st (pc' := 20) (L' := [xL i0, xU]) (st' := [xL 719535492, xL i0]) (fun _ _ _ k => e_lload_n dX10_isCommand_16 rfl (i := 0) (x := i0) rfl (e_ldc2 dX10_isCommand_17 ckX10_259 (k8 rfl) k)) ?_
      refine ev_br2 (P := i0 = 719535492) (pct := 72) (pcf := 24) (st' := []) (fun _ _ _ kt kf => e_lcmp dX10_isCommand_20 (e_leq dX10_isCommand_21 (tgt := 72) rfl kt kf)) (fun h3 => ?_) (fun h3 => ?_)
      · exact ev_ret (e_iconst dX10_isCommand_72 (k4 rfl) (e_goto dX10_isCommand_73 (tgt := 77) rfl (e_iret dX10_isCommand_77)))
      · refine ev_st (pc' := 28) (L' := [xL i0, xU]) (st' := [xL 20456901, xL i0]) (fun _ _ _ k => e_lload_n dX10_isCommand_24 rfl (i := 0) (x := i0) rfl (e_ldc2 dX10_isCommand_25 ckX10_243 (k8 rfl) k)) ?_
        refine ev_br2 (P := i0 = 20456901) (pct := 72) (pcf := 32) (st' := []) (fun _ _ _ kt kf => e_lcmp dX10_isCommand_28 (e_leq dX10_isCommand_29 (tgt := 72) rfl kt kf)) (fun h4 => ?_) (fun h4 => ?_)
        · exact ev_ret (e_iconst dX10_isCommand_72 (k4 rfl) (e_goto dX10_isCommand_73 (tgt := 77) rfl (e_iret dX10_isCommand_77)))
        · refine ev_st (pc' := 36) (L' := [xL i0, xU]) (st' := [xL 17376724, xL i0]) (fun _ _ _ k => e_lload_n dX10_isCommand_32 rfl (i := 0) (x := i0) rfl (e_ldc2 dX10_isCommand_33 ckX10_261 (k8 rfl) k)) ?_
          refine ev_br2 (P := i0 = 17376724) (pct := 72) (pcf := 40) (st' := []) (fun _ _ _ kt kf => e_lcmp dX10_isCommand_36 (e_leq dX10_isCommand_37 (tgt := 72) rfl kt kf)) (fun h5 => ?_) (fun h5 => ?_)
          · exact ev_ret (e_iconst dX10_isCommand_72 (k4 rfl) (e_goto dX10_isCommand_73 (tgt := 77) rfl (e_iret dX10_isCommand_77)))
          · refine ev_st (pc' := 44) (L' := [xL i0, xU]) (st' := [xL 3764, xL i0]) (fun _ _ _ k => e_lload_n dX10_isCommand_40 rfl (i := 0) (x := i0) rfl (e_ldc2 dX10_isCommand_41 ckX10_241 (k8 rfl) k)) ?_
            refine ev_br2 (P := i0 = 3764) (pct := 72) (pcf := 48) (st' := []) (fun _ _ _ kt kf => e_lcmp dX10_isCommand_44 (e_leq dX10_isCommand_45 (tgt := 72) rfl kt kf)) (fun h6 => ?_) (fun h6 => ?_)
            · exact ev_ret (e_iconst dX10_isCommand_72 (k4 rfl) (e_goto dX10_isCommand_73 (tgt := 77) rfl (e_iret dX10_isCommand_77)))
            · refine ev_st (pc' := 52) (L' := [xL i0, xU]) (st' := [xL 658555269, xL i0]) (fun _ _ _ k => e_lload_n dX10_isCommand_48 rfl (i := 0) (x := i0) rfl (e_ldc2 dX10_isCommand_49 ckX10_263 (k8 rfl) k)) ?_
              refine ev_br2 (P := i0 = 658555269) (pct := 72) (pcf := 56) (st' := []) (fun _ _ _ kt kf => e_lcmp dX10_isCommand_52 (e_leq dX10_isCommand_53 (tgt := 72) rfl kt kf)) (fun h7 => ?_) (fun h7 => ?_)
              · exact ev_ret (e_iconst dX10_isCommand_72 (k4 rfl) (e_goto dX10_isCommand_73 (tgt := 77) rfl (e_iret dX10_isCommand_77)))
              · refine ev_st (pc' := 60) (L' := [xL i0, xU]) (st' := [xL 474757, xL i0]) (fun _ _ _ k => e_lload_n dX10_isCommand_56 rfl (i := 0) (x := i0) rfl (e_ldc2 dX10_isCommand_57 ckX10_248 (k8 rfl) k)) ?_
                refine ev_br2 (P := i0 = 474757) (pct := 72) (pcf := 64) (st' := []) (fun _ _ _ kt kf => e_lcmp dX10_isCommand_60 (e_leq dX10_isCommand_61 (tgt := 72) rfl kt kf)) (fun h8 => ?_) (fun h8 => ?_)
                · exact ev_ret (e_iconst dX10_isCommand_72 (k4 rfl) (e_goto dX10_isCommand_73 (tgt := 77) rfl (e_iret dX10_isCommand_77)))
                · refine ev_st (pc' := 68) (L' := [xL i0, xU]) (st' := [xL 12892339, xL i0]) (fun _ _ _ k => e_lload_n dX10_isCommand_64 rfl (i := 0) (x := i0) rfl (e_ldc2 dX10_isCommand_65 ckX10_265 (k8 rfl) k)) ?_
                  refine ev_br2 (P := i0 = 12892339) (pct := 72) (pcf := 76) (st' := []) (fun _ _ _ kt kf => e_lcmp dX10_isCommand_68 (e_lne dX10_isCommand_69 (tgt := 76) rfl kt kf)) (fun h9 => ?_) (fun h9 => ?_)
                  · exact ev_ret (e_iconst dX10_isCommand_72 (k4 rfl) (e_goto dX10_isCommand_73 (tgt := 77) rfl (e_iret dX10_isCommand_77)))
                  · exact ev_ret (e_iconst dX10_isCommand_76 (k4 rfl) (e_iret dX10_isCommand_77))
def lp_X10_doFolds_4 (a : Nat) : Nat → Int → Int → xN → (Int → Int → xN → Option (Int × xN)) → Option (Int × xN)
  | 0, _, _, _, _ => none
  | n + 1, y1, y2, R, X =>
    if (R a 24) ≤ y2 then
    X y1 y2 R
    else
    if y1 < 0 then
    X y1 y2 R
    else
    if 0 ≤ y2 ∧ y2 < 4 then
    (f_X10_fold a (R (a + 13) (y2).toNat) R).bind (fun v4 =>
    xlet (w4 (y2 + 1)) (fun x5 =>
    lp_X10_doFolds_4 a n v4.1 x5 v4.2 X))
    else none
def f_X10_doFolds (a : Nat) (R : xN) : Option (Int × xN) :=
  lp_X10_doFolds_4 a 6000 0 0 R (fun z6 z7 R8 =>
  some (z6, R8))
set_option maxRecDepth 20000 in
set_option maxHeartbeats 4000000 in
theorem lc_X10_doFolds_4 {l : Launch} {g : xG} {d : Nat} {A : xA} {a : Nat} (h_a : sh 10 A a)  {X : Int → Int → xN → Option (Int × xN)} (hX : ∀ (y1 : Int) (y2 : Int) (R : xN), Ev l g (d + 4) mX10_doFolds 33 [xU, xI y1, xU] [] A R (fun v : Int × xN => some (xI v.1)) (fun v => v.2) (X y1 y2 R)) (n : Nat) (y1 : Int) (y2 : Int) (R : xN) : Ev l g (d + 4) mX10_doFolds 4 [xR a, xI y1, xI y2] [] A R (fun v : Int × xN => some (xI v.1)) (fun v => v.2) (lp_X10_doFolds_4 a n y1 y2 R X) := by
  induction n generalizing y1 y2 R with
  | zero => exact ev_none
  | succ n ih =>
    rw [lp_X10_doFolds_4]
    refine ev_st (pc' := 9) (L' := [xR a, xI y1, xI y2]) (st' := [xI (R a 24), xI y2]) (fun _ _ _ k => e_iload_n dX10_doFolds_4 rfl (i := 2) (x := y2) rfl (e_aload_n dX10_doFolds_5 rfl (i := 0) (x := a) rfl (e_geti dX10_doFolds_6 flX10_224 (kd10_0 h_a) (Or.inl rfl) k))) ?_
    refine ev_br2 (P := (R a 24) ≤ y2) (pct := 33) (pcf := 12) (st' := []) (fun _ _ _ kt kf => e_cge dX10_doFolds_9 (tgt := 33) rfl kt kf) (fun h1 => ?_) (fun h1 => ?_)
    · refine ev_st (pc' := 33) (L' := [xU, xI y1, xU]) (st' := []) (fun _ _ _ k => e_fg [0, 2] k) ?_
      exact hX y1 y2 R
    · refine ev_st (pc' := 13) (L' := [xR a, xI y1, xI y2]) (st' := [xI y1]) (fun _ _ _ k => e_iload_n dX10_doFolds_12 rfl (i := 1) (x := y1) rfl k) ?_
      refine ev_br2 (P := y1 < 0) (pct := 33) (pcf := 16) (st' := []) (fun _ _ _ kt kf => e_iflt dX10_doFolds_13 (tgt := 33) rfl kt kf) (fun h2 => ?_) (fun h2 => ?_)
      · refine ev_st (pc' := 33) (L' := [xU, xI y1, xU]) (st' := []) (fun _ _ _ k => e_fg [0, 2] k) ?_
        exact hX y1 y2 R
      · refine ev_st (pc' := 22) (L' := [xR a, xI y1, xI y2]) (st' := [xI y2, xR (a + 13), xR a]) (fun _ _ _ k => e_aload_n dX10_doFolds_16 rfl (i := 0) (x := a) rfl (e_aload_n dX10_doFolds_17 rfl (i := 0) (x := a) rfl (e_getr dX10_doFolds_18 flX10_46 (kd10_0 h_a) rfl (rf10_0_23 h_a) (e_iload_n dX10_doFolds_21 rfl (i := 2) (x := y2) rfl k)))) ?_
        refine ev_chk (fun h3 => ?_)
        refine ev_st (pc' := 23) (L' := [xR a, xI y1, xI y2]) (st' := [xI (R (a + 13) (y2).toNat), xR a]) (fun _ _ _ k => e_iald dX10_doFolds_22 (kd10_13 h_a) h3.1 h3.2 k) ?_
        refine ev_callV (As := [xI (R (a + 13) (y2).toNat)]) (st := []) (fun v4 => [xI v4.1]) dX10_doFolds_23 mlX10_267 (kd10_0 h_a) rfl rfl rfl rfl rfl rfl (c_X10_fold (d := d) h_a (R (a + 13) (y2).toNat)) (fun _ => trivial) (fun _ => rfl) (fun v4 => ?_)
        refine ev_st (pc' := 27) (L' := [xR a, xI v4.1, xI y2]) (st' := []) (fun _ _ _ k => e_istore_n dX10_doFolds_26 rfl (i := 1) rfl (L' := [xR a, xI v4.1, xI y2]) rfl k) ?_
        refine ev_letx (fun x5 ex5 => ?_)
        refine ev_st (pc' := 30) (L' := [xR a, xI v4.1, xI x5]) (st' := []) (fun _ _ _ k => e_iinc dX10_doFolds_27 (i := 2) rfl (x := y2) rfl (y := x5) ex5 (L' := [xR a, xI v4.1, xI x5]) rfl k) ?_
        refine ev_st (pc' := 4) (L' := [xR a, xI v4.1, xI x5]) (st' := []) (fun _ _ _ k => e_goto dX10_doFolds_30 (tgt := 4) rfl k) ?_
        exact ih v4.1 x5 v4.2
set_option maxRecDepth 20000 in
set_option maxHeartbeats 4000000 in
theorem c_X10_doFolds {l : Launch} {g : xG} {d : Nat} {A : xA} {R : xN} {a : Nat} (h_a : sh 10 A a)  : Ev l g (d + 4) mX10_doFolds 0 [xR a, xU, xU] [] A R (fun v : Int × xN => some (xI v.1)) (fun v => v.2) (f_X10_doFolds a R) := by
  rw [f_X10_doFolds]
  refine ev_st (pc' := 4) (L' := [xR a, xI 0, xI 0]) (st' := []) (fun _ _ _ k => e_iconst dX10_doFolds_0 (k4 rfl) (e_istore_n dX10_doFolds_1 rfl (i := 1) rfl (L' := [xR a, xI 0, xU]) rfl (e_iconst dX10_doFolds_2 (k4 rfl) (e_istore_n dX10_doFolds_3 rfl (i := 2) rfl (L' := [xR a, xI 0, xI 0]) rfl k)))) ?_
  refine lc_X10_doFolds_4 h_a (fun z6 z7 R8 => ?_) 6000 0 0 R
  exact ev_ret (e_iload_n dX10_doFolds_33 rfl (i := 1) (x := z6) rfl (e_iret dX10_doFolds_34))
def f_X10_doCommand (a : Nat) (i0 : Int) (R : xN) : Option (Int × xN) :=
  if i0 = 20190388 then
  (f_X10_setSheet a (R (a + 13) 0) (R (a + 13) 1) R).bind (fun v2 =>
  some (v2.1, v2.2))
  else
  if i0 = 212356 then
  (f_X10_doFolds a R).bind (fun v4 =>
  some (v4.1, v4.2))
  else
  if i0 = 719535492 then
  (f_X10_unfold a R).bind (fun v6 =>
  some (v6.1, v6.2))
  else
  if i0 = 20456901 then
  if (R (a + 13) 0) = 0 then
  (f_X10_setSpine a 0 R).bind (fun v9 =>
  some (v9.1, v9.2))
  else
  (f_X10_setSpine a 1 R).bind (fun v10 =>
  some (v10.1, v10.2))
  else
  if i0 = 17376724 then
  (f_X10_printAll a (R (a + 13) 0) R).bind (fun v12 =>
  some (v12.1, v12.2))
  else
  if i0 = 3764 then
  (f_X10_cut a (R (a + 13) 0) R).bind (fun v14 =>
  some (v14.1, v14.2))
  else
  if i0 = 658555269 then
  (f_X10_staple a (R (a + 13) 0) R).bind (fun v16 =>
  some (v16.1, v16.2))
  else
  if i0 = 474757 then
  if (R a 25) = 0 then
  (f_X10_addNote a (R (a + 13) 0) (R (a + 13) 1) (R (a + 13) 2) 0 R).bind (fun v19 =>
  some (v19.1, v19.2))
  else
  (f_X10_addNote a (R (a + 13) 0) (R (a + 13) 1) (R (a + 13) 2) 1 R).bind (fun v20 =>
  some (v20.1, v20.2))
  else
  (f_X10_setLines a (R (a + 13) 0) R).bind (fun v21 =>
  some (v21.1, v21.2))
set_option maxRecDepth 20000 in
set_option maxHeartbeats 4000000 in
theorem c_X10_doCommand {l : Launch} {g : xG} {d : Nat} {A : xA} {R : xN} {a : Nat} (h_a : sh 10 A a) (i0 : Int) : Ev l g (d + 5) mX10_doCommand 0 [xR a, xL i0, xU] [] A R (fun v : Int × xN => some (xI v.1)) (fun v => v.2) (f_X10_doCommand a i0 R) := by
  rw [f_X10_doCommand]
  refine ev_st (pc' := 4) (L' := [xR a, xL i0, xU]) (st' := [xL 20190388, xL i0]) (fun _ _ _ k => e_lload_n dX10_doCommand_0 rfl (i := 1) (x := i0) rfl (e_ldc2 dX10_doCommand_1 ckX10_257 (k8 rfl) k)) ?_
  refine ev_br2 (P := i0 = 20190388) (pct := 8) (pcf := 25) (st' := []) (fun _ _ _ kt kf => e_lcmp dX10_doCommand_4 (e_lne dX10_doCommand_5 (tgt := 25) rfl kt kf)) (fun h1 => ?_) (fun h1 => ?_)
  · refine ev_st (pc' := 21) (L' := [xR a, xL i0, xU]) (st' := [xI (R (a + 13) 1), xI (R (a + 13) 0), xR a]) (fun _ _ _ k => e_aload_n dX10_doCommand_8 rfl (i := 0) (x := a) rfl (e_aload_n dX10_doCommand_9 rfl (i := 0) (x := a) rfl (e_getr dX10_doCommand_10 flX10_46 (kd10_0 h_a) rfl (rf10_0_23 h_a) (e_iconst dX10_doCommand_13 (k4 rfl) (e_iald dX10_doCommand_14 (kd10_13 h_a) (by decide) (by decide) (e_aload_n dX10_doCommand_15 rfl (i := 0) (x := a) rfl (e_getr dX10_doCommand_16 flX10_46 (kd10_0 h_a) rfl (rf10_0_23 h_a) (e_iconst dX10_doCommand_19 (k4 rfl) (e_iald dX10_doCommand_20 (kd10_13 h_a) (by decide) (by decide) k))))))))) ?_
    refine ev_callV (As := [xI (R (a + 13) 0), xI (R (a + 13) 1)]) (st := []) (fun v2 => [xI v2.1]) dX10_doCommand_21 mlX10_270 (kd10_0 h_a) rfl rfl rfl rfl rfl rfl (c_X10_setSheet (d := d + 2) h_a (R (a + 13) 0) (R (a + 13) 1)) (fun _ => trivial) (fun _ => rfl) (fun v2 => ?_)
    exact ev_ret (e_iret dX10_doCommand_24)
  · refine ev_st (pc' := 29) (L' := [xR a, xL i0, xU]) (st' := [xL 212356, xL i0]) (fun _ _ _ k => e_lload_n dX10_doCommand_25 rfl (i := 1) (x := i0) rfl (e_ldc2 dX10_doCommand_26 ckX10_255 (k8 rfl) k)) ?_
    refine ev_br2 (P := i0 = 212356) (pct := 33) (pcf := 38) (st' := []) (fun _ _ _ kt kf => e_lcmp dX10_doCommand_29 (e_lne dX10_doCommand_30 (tgt := 38) rfl kt kf)) (fun h3 => ?_) (fun h3 => ?_)
    · refine ev_st (pc' := 34) (L' := [xR a, xL i0, xU]) (st' := [xR a]) (fun _ _ _ k => e_aload_n dX10_doCommand_33 rfl (i := 0) (x := a) rfl k) ?_
      refine ev_callV (As := []) (st := []) (fun v4 => [xI v4.1]) dX10_doCommand_34 mlX10_273 (kd10_0 h_a) rfl rfl rfl rfl rfl rfl (c_X10_doFolds (d := d) h_a) (fun _ => trivial) (fun _ => rfl) (fun v4 => ?_)
      exact ev_ret (e_iret dX10_doCommand_37)
    · refine ev_st (pc' := 42) (L' := [xR a, xL i0, xU]) (st' := [xL 719535492, xL i0]) (fun _ _ _ k => e_lload_n dX10_doCommand_38 rfl (i := 1) (x := i0) rfl (e_ldc2 dX10_doCommand_39 ckX10_259 (k8 rfl) k)) ?_
      refine ev_br2 (P := i0 = 719535492) (pct := 46) (pcf := 51) (st' := []) (fun _ _ _ kt kf => e_lcmp dX10_doCommand_42 (e_lne dX10_doCommand_43 (tgt := 51) rfl kt kf)) (fun h5 => ?_) (fun h5 => ?_)
      · refine ev_st (pc' := 47) (L' := [xR a, xL i0, xU]) (st' := [xR a]) (fun _ _ _ k => e_aload_n dX10_doCommand_46 rfl (i := 0) (x := a) rfl k) ?_
        refine ev_callV (As := []) (st := []) (fun v6 => [xI v6.1]) dX10_doCommand_47 mlX10_276 (kd10_0 h_a) rfl rfl rfl rfl rfl rfl (c_X10_unfold (d := d + 2) h_a) (fun _ => trivial) (fun _ => rfl) (fun v6 => ?_)
        exact ev_ret (e_iret dX10_doCommand_50)
      · refine ev_st (pc' := 55) (L' := [xR a, xL i0, xU]) (st' := [xL 20456901, xL i0]) (fun _ _ _ k => e_lload_n dX10_doCommand_51 rfl (i := 1) (x := i0) rfl (e_ldc2 dX10_doCommand_52 ckX10_243 (k8 rfl) k)) ?_
        refine ev_br2 (P := i0 = 20456901) (pct := 59) (pcf := 78) (st' := []) (fun _ _ _ kt kf => e_lcmp dX10_doCommand_55 (e_lne dX10_doCommand_56 (tgt := 78) rfl kt kf)) (fun h7 => ?_) (fun h7 => ?_)
        · refine ev_st (pc' := 66) (L' := [xR a, xL i0, xU]) (st' := [xI (R (a + 13) 0), xR a]) (fun _ _ _ k => e_aload_n dX10_doCommand_59 rfl (i := 0) (x := a) rfl (e_aload_n dX10_doCommand_60 rfl (i := 0) (x := a) rfl (e_getr dX10_doCommand_61 flX10_46 (kd10_0 h_a) rfl (rf10_0_23 h_a) (e_iconst dX10_doCommand_64 (k4 rfl) (e_iald dX10_doCommand_65 (kd10_13 h_a) (by decide) (by decide) k))))) ?_
          refine ev_br2 (P := (R (a + 13) 0) = 0) (pct := 69) (pcf := 73) (st' := [xR a]) (fun _ _ _ kt kf => e_ifne dX10_doCommand_66 (tgt := 73) rfl kt kf) (fun h8 => ?_) (fun h8 => ?_)
          · refine ev_st (pc' := 74) (L' := [xR a, xL i0, xU]) (st' := [xI 0, xR a]) (fun _ _ _ k => e_iconst dX10_doCommand_69 (k4 rfl) (e_goto dX10_doCommand_70 (tgt := 74) rfl k)) ?_
            refine ev_callV (As := [xI 0]) (st := []) (fun v9 => [xI v9.1]) dX10_doCommand_74 mlX10_279 (kd10_0 h_a) rfl rfl rfl rfl rfl rfl (c_X10_setSpine (d := d + 2) h_a 0) (fun _ => trivial) (fun _ => rfl) (fun v9 => ?_)
            exact ev_ret (e_iret dX10_doCommand_77)
          · refine ev_st (pc' := 74) (L' := [xR a, xL i0, xU]) (st' := [xI 1, xR a]) (fun _ _ _ k => e_iconst dX10_doCommand_73 (k4 rfl) k) ?_
            refine ev_callV (As := [xI 1]) (st := []) (fun v10 => [xI v10.1]) dX10_doCommand_74 mlX10_279 (kd10_0 h_a) rfl rfl rfl rfl rfl rfl (c_X10_setSpine (d := d + 2) h_a 1) (fun _ => trivial) (fun _ => rfl) (fun v10 => ?_)
            exact ev_ret (e_iret dX10_doCommand_77)
        · refine ev_st (pc' := 82) (L' := [xR a, xL i0, xU]) (st' := [xL 17376724, xL i0]) (fun _ _ _ k => e_lload_n dX10_doCommand_78 rfl (i := 1) (x := i0) rfl (e_ldc2 dX10_doCommand_79 ckX10_261 (k8 rfl) k)) ?_
          refine ev_br2 (P := i0 = 17376724) (pct := 86) (pcf := 97) (st' := []) (fun _ _ _ kt kf => e_lcmp dX10_doCommand_82 (e_lne dX10_doCommand_83 (tgt := 97) rfl kt kf)) (fun h11 => ?_) (fun h11 => ?_)
          · refine ev_st (pc' := 93) (L' := [xR a, xL i0, xU]) (st' := [xI (R (a + 13) 0), xR a]) (fun _ _ _ k => e_aload_n dX10_doCommand_86 rfl (i := 0) (x := a) rfl (e_aload_n dX10_doCommand_87 rfl (i := 0) (x := a) rfl (e_getr dX10_doCommand_88 flX10_46 (kd10_0 h_a) rfl (rf10_0_23 h_a) (e_iconst dX10_doCommand_91 (k4 rfl) (e_iald dX10_doCommand_92 (kd10_13 h_a) (by decide) (by decide) k))))) ?_
            refine ev_callV (As := [xI (R (a + 13) 0)]) (st := []) (fun v12 => [xI v12.1]) dX10_doCommand_93 mlX10_282 (kd10_0 h_a) rfl rfl rfl rfl rfl rfl (c_X10_printAll (d := d + 1) h_a (R (a + 13) 0)) (fun _ => trivial) (fun _ => rfl) (fun v12 => ?_)
            exact ev_ret (e_iret dX10_doCommand_96)
          · refine ev_st (pc' := 101) (L' := [xR a, xL i0, xU]) (st' := [xL 3764, xL i0]) (fun _ _ _ k => e_lload_n dX10_doCommand_97 rfl (i := 1) (x := i0) rfl (e_ldc2 dX10_doCommand_98 ckX10_241 (k8 rfl) k)) ?_
            refine ev_br2 (P := i0 = 3764) (pct := 105) (pcf := 116) (st' := []) (fun _ _ _ kt kf => e_lcmp dX10_doCommand_101 (e_lne dX10_doCommand_102 (tgt := 116) rfl kt kf)) (fun h13 => ?_) (fun h13 => ?_)
            · refine ev_st (pc' := 112) (L' := [xR a, xL i0, xU]) (st' := [xI (R (a + 13) 0), xR a]) (fun _ _ _ k => e_aload_n dX10_doCommand_105 rfl (i := 0) (x := a) rfl (e_aload_n dX10_doCommand_106 rfl (i := 0) (x := a) rfl (e_getr dX10_doCommand_107 flX10_46 (kd10_0 h_a) rfl (rf10_0_23 h_a) (e_iconst dX10_doCommand_110 (k4 rfl) (e_iald dX10_doCommand_111 (kd10_13 h_a) (by decide) (by decide) k))))) ?_
              refine ev_callV (As := [xI (R (a + 13) 0)]) (st := []) (fun v14 => [xI v14.1]) dX10_doCommand_112 mlX10_285 (kd10_0 h_a) rfl rfl rfl rfl rfl rfl (c_X10_cut (d := d) h_a (R (a + 13) 0)) (fun _ => trivial) (fun _ => rfl) (fun v14 => ?_)
              exact ev_ret (e_iret dX10_doCommand_115)
            · refine ev_st (pc' := 120) (L' := [xR a, xL i0, xU]) (st' := [xL 658555269, xL i0]) (fun _ _ _ k => e_lload_n dX10_doCommand_116 rfl (i := 1) (x := i0) rfl (e_ldc2 dX10_doCommand_117 ckX10_263 (k8 rfl) k)) ?_
              refine ev_br2 (P := i0 = 658555269) (pct := 124) (pcf := 135) (st' := []) (fun _ _ _ kt kf => e_lcmp dX10_doCommand_120 (e_lne dX10_doCommand_121 (tgt := 135) rfl kt kf)) (fun h15 => ?_) (fun h15 => ?_)
              · refine ev_st (pc' := 131) (L' := [xR a, xL i0, xU]) (st' := [xI (R (a + 13) 0), xR a]) (fun _ _ _ k => e_aload_n dX10_doCommand_124 rfl (i := 0) (x := a) rfl (e_aload_n dX10_doCommand_125 rfl (i := 0) (x := a) rfl (e_getr dX10_doCommand_126 flX10_46 (kd10_0 h_a) rfl (rf10_0_23 h_a) (e_iconst dX10_doCommand_129 (k4 rfl) (e_iald dX10_doCommand_130 (kd10_13 h_a) (by decide) (by decide) k))))) ?_
                refine ev_callV (As := [xI (R (a + 13) 0)]) (st := []) (fun v16 => [xI v16.1]) dX10_doCommand_131 mlX10_288 (kd10_0 h_a) rfl rfl rfl rfl rfl rfl (c_X10_staple (d := d) h_a (R (a + 13) 0)) (fun _ => trivial) (fun _ => rfl) (fun v16 => ?_)
                exact ev_ret (e_iret dX10_doCommand_134)
              · refine ev_st (pc' := 139) (L' := [xR a, xL i0, xU]) (st' := [xL 474757, xL i0]) (fun _ _ _ k => e_lload_n dX10_doCommand_135 rfl (i := 1) (x := i0) rfl (e_ldc2 dX10_doCommand_136 ckX10_248 (k8 rfl) k)) ?_
                refine ev_br2 (P := i0 = 474757) (pct := 143) (pcf := 180) (st' := []) (fun _ _ _ kt kf => e_lcmp dX10_doCommand_139 (e_lne dX10_doCommand_140 (tgt := 180) rfl kt kf)) (fun h17 => ?_) (fun h17 => ?_)
                · refine ev_st (pc' := 166) (L' := [xR a, xL i0, xU]) (st' := [xI (R a 25), xI (R (a + 13) 2), xI (R (a + 13) 1), xI (R (a + 13) 0), xR a]) (fun _ _ _ k => e_aload_n dX10_doCommand_143 rfl (i := 0) (x := a) rfl (e_aload_n dX10_doCommand_144 rfl (i := 0) (x := a) rfl (e_getr dX10_doCommand_145 flX10_46 (kd10_0 h_a) rfl (rf10_0_23 h_a) (e_iconst dX10_doCommand_148 (k4 rfl) (e_iald dX10_doCommand_149 (kd10_13 h_a) (by decide) (by decide) (e_aload_n dX10_doCommand_150 rfl (i := 0) (x := a) rfl (e_getr dX10_doCommand_151 flX10_46 (kd10_0 h_a) rfl (rf10_0_23 h_a) (e_iconst dX10_doCommand_154 (k4 rfl) (e_iald dX10_doCommand_155 (kd10_13 h_a) (by decide) (by decide) (e_aload_n dX10_doCommand_156 rfl (i := 0) (x := a) rfl (e_getr dX10_doCommand_157 flX10_46 (kd10_0 h_a) rfl (rf10_0_23 h_a) (e_iconst dX10_doCommand_160 (k4 rfl) (e_iald dX10_doCommand_161 (kd10_13 h_a) (by decide) (by decide) (e_aload_n dX10_doCommand_162 rfl (i := 0) (x := a) rfl (e_geti dX10_doCommand_163 flX10_238 (kd10_0 h_a) (Or.inr rfl) k))))))))))))))) ?_
                  refine ev_br2 (P := (R a 25) = 0) (pct := 173) (pcf := 169) (st' := [xI (R (a + 13) 2), xI (R (a + 13) 1), xI (R (a + 13) 0), xR a]) (fun _ _ _ kt kf => e_ifeq dX10_doCommand_166 (tgt := 173) rfl kt kf) (fun h18 => ?_) (fun h18 => ?_)
                  · refine ev_st (pc' := 174) (L' := [xR a, xL i0, xU]) (st' := [xI 0, xI (R (a + 13) 2), xI (R (a + 13) 1), xI (R (a + 13) 0), xR a]) (fun _ _ _ k => e_iconst dX10_doCommand_173 (k4 rfl) k) ?_
                    refine ev_callV (As := [xI (R (a + 13) 0), xI (R (a + 13) 1), xI (R (a + 13) 2), xI 0]) (st := []) (fun v19 => [xI v19.1]) dX10_doCommand_174 mlX10_291 (kd10_0 h_a) rfl rfl rfl rfl rfl rfl (c_X10_addNote (d := d + 2) h_a (R (a + 13) 0) (R (a + 13) 1) (R (a + 13) 2) 0) (fun _ => trivial) (fun _ => rfl) (fun v19 => ?_)
                    exact ev_ret (e_goto dX10_doCommand_177 (tgt := 190) rfl (e_iret dX10_doCommand_190))
                  · refine ev_st (pc' := 174) (L' := [xR a, xL i0, xU]) (st' := [xI 1, xI (R (a + 13) 2), xI (R (a + 13) 1), xI (R (a + 13) 0), xR a]) (fun _ _ _ k => e_iconst dX10_doCommand_169 (k4 rfl) (e_goto dX10_doCommand_170 (tgt := 174) rfl k)) ?_
                    refine ev_callV (As := [xI (R (a + 13) 0), xI (R (a + 13) 1), xI (R (a + 13) 2), xI 1]) (st := []) (fun v20 => [xI v20.1]) dX10_doCommand_174 mlX10_291 (kd10_0 h_a) rfl rfl rfl rfl rfl rfl (c_X10_addNote (d := d + 2) h_a (R (a + 13) 0) (R (a + 13) 1) (R (a + 13) 2) 1) (fun _ => trivial) (fun _ => rfl) (fun v20 => ?_)
                    exact ev_ret (e_goto dX10_doCommand_177 (tgt := 190) rfl (e_iret dX10_doCommand_190))
                · refine ev_st (pc' := 187) (L' := [xR a, xL i0, xU]) (st' := [xI (R (a + 13) 0), xR a]) (fun _ _ _ k => e_aload_n dX10_doCommand_180 rfl (i := 0) (x := a) rfl (e_aload_n dX10_doCommand_181 rfl (i := 0) (x := a) rfl (e_getr dX10_doCommand_182 flX10_46 (kd10_0 h_a) rfl (rf10_0_23 h_a) (e_iconst dX10_doCommand_185 (k4 rfl) (e_iald dX10_doCommand_186 (kd10_13 h_a) (by decide) (by decide) k))))) ?_
                  refine ev_callV (As := [xI (R (a + 13) 0)]) (st := []) (fun v21 => [xI v21.1]) dX10_doCommand_187 mlX10_295 (kd10_0 h_a) rfl rfl rfl rfl rfl rfl (c_X10_setLines (d := d + 2) h_a (R (a + 13) 0)) (fun _ => trivial) (fun _ => rfl) (fun v21 => ?_)
                  exact ev_ret (e_iret dX10_doCommand_190)
def lp_X10_runAll_16 (a : Nat) : Nat → Int → xN → (Int → xN → Option (Int × xN)) → Option (Int × xN)
  | 0, _, _, _ => none
  | n + 1, y1, R, X =>
    if (R a 20) = 0 then
    X y1 R
    else
    if 0 ≤ (R a 26) then
    X y1 R
    else
    xlet (R a 19) (fun x6 =>
    if (R a 20) = 1 then
    (f_X10_isCommand (R a 21) R).bind (fun v8 =>
    if v8 = true then
    (f_X10_readsNeeds a (R a 21) R).bind (fun v10 =>
    if v10.1 = true then
    if (v10.2 a 20) = 3 then
    (f_X10_doCommand a (R a 21) v10.2).bind (fun v13 =>
    if 0 ≤ v13.1 then
    xlet (w4 (y1 + 1)) (fun x15 =>
    (f_X10_next a v13.2).bind (fun v16 =>
    lp_X10_runAll_16 a n x15 v16 X))
    else
    xlet (xup v13.2 a 26 x6) (fun R17 =>
    lp_X10_runAll_16 a n y1 R17 X))
    else
    xlet (xup v10.2 a 26 (v10.2 a 19)) (fun R18 =>
    lp_X10_runAll_16 a n y1 R18 X)
    else
    xlet (xup v10.2 a 26 (v10.2 a 19)) (fun R19 =>
    lp_X10_runAll_16 a n y1 R19 X))
    else
    xlet (xup R a 26 x6) (fun R20 =>
    lp_X10_runAll_16 a n y1 R20 X))
    else
    (f_X10_isCommand 0 R).bind (fun v21 =>
    if v21 = true then
    (f_X10_readsNeeds a 0 R).bind (fun v23 =>
    if v23.1 = true then
    if (v23.2 a 20) = 3 then
    (f_X10_doCommand a 0 v23.2).bind (fun v26 =>
    if 0 ≤ v26.1 then
    xlet (w4 (y1 + 1)) (fun x28 =>
    (f_X10_next a v26.2).bind (fun v29 =>
    lp_X10_runAll_16 a n x28 v29 X))
    else
    xlet (xup v26.2 a 26 x6) (fun R30 =>
    lp_X10_runAll_16 a n y1 R30 X))
    else
    xlet (xup v23.2 a 26 (v23.2 a 19)) (fun R31 =>
    lp_X10_runAll_16 a n y1 R31 X)
    else
    xlet (xup v23.2 a 26 (v23.2 a 19)) (fun R32 =>
    lp_X10_runAll_16 a n y1 R32 X))
    else
    xlet (xup R a 26 x6) (fun R33 =>
    lp_X10_runAll_16 a n y1 R33 X)))
def f_X10_runAll (a : Nat) (R : xN) : Option (Int × xN) :=
  xlet (xup R a 18 0) (fun R1 =>
  xlet (xup R1 a 26 (-1)) (fun R2 =>
  (f_X10_next a R2).bind (fun v3 =>
  lp_X10_runAll_16 a 6000 0 v3 (fun z34 R35 =>
  some (z34, R35)))))
set_option maxRecDepth 20000 in
set_option maxHeartbeats 4000000 in
theorem lc_X10_runAll_16 {l : Launch} {g : xG} {d : Nat} {A : xA} {a : Nat} (h_a : sh 10 A a)  {X : Int → xN → Option (Int × xN)} (hX : ∀ (y1 : Int) (R : xN), Ev l g (d + 6) mX10_runAll 120 [xU, xI y1, xU, xU, xU] [] A R (fun v : Int × xN => some (xI v.1)) (fun v => v.2) (X y1 R)) (n : Nat) (y1 : Int) (R : xN) : Ev l g (d + 6) mX10_runAll 16 [xR a, xI y1, xU, xU, xU] [] A R (fun v : Int × xN => some (xI v.1)) (fun v => v.2) (lp_X10_runAll_16 a n y1 R X) := by
  induction n generalizing y1 R with
  | zero => exact ev_none
  | succ n ih =>
    rw [lp_X10_runAll_16]
    refine ev_st (pc' := 20) (L' := [xR a, xI y1, xU, xU, xU]) (st' := [xI (R a 20)]) (fun _ _ _ k => e_aload_n dX10_runAll_16 rfl (i := 0) (x := a) rfl (e_geti dX10_runAll_17 flX10_206 (kd10_0 h_a) (Or.inl rfl) k)) ?_
    refine ev_br2 (P := (R a 20) = 0) (pct := 120) (pcf := 23) (st' := []) (fun _ _ _ kt kf => e_ifeq dX10_runAll_20 (tgt := 120) rfl kt kf) (fun h4 => ?_) (fun h4 => ?_)
    · refine ev_st (pc' := 120) (L' := [xU, xI y1, xU, xU, xU]) (st' := []) (fun _ _ _ k => e_fg [0] k) ?_
      exact hX y1 R
    · refine ev_st (pc' := 27) (L' := [xR a, xI y1, xU, xU, xU]) (st' := [xI (R a 26)]) (fun _ _ _ k => e_aload_n dX10_runAll_23 rfl (i := 0) (x := a) rfl (e_geti dX10_runAll_24 flX10_298 (kd10_0 h_a) (Or.inl rfl) k)) ?_
      refine ev_br2 (P := 0 ≤ (R a 26)) (pct := 120) (pcf := 30) (st' := []) (fun _ _ _ kt kf => e_ifge dX10_runAll_27 (tgt := 120) rfl kt kf) (fun h5 => ?_) (fun h5 => ?_)
      · refine ev_st (pc' := 120) (L' := [xU, xI y1, xU, xU, xU]) (st' := []) (fun _ _ _ k => e_fg [0] k) ?_
        exact hX y1 R
      · refine ev_st (pc' := 34) (L' := [xR a, xI y1, xU, xU, xU]) (st' := [xI (R a 19)]) (fun _ _ _ k => e_aload_n dX10_runAll_30 rfl (i := 0) (x := a) rfl (e_geti dX10_runAll_31 flX10_215 (kd10_0 h_a) (Or.inl rfl) k)) ?_
        refine ev_leti (fun x6 ex6 => ?_)
        refine ev_st (pc' := 35) (L' := [xR a, xI y1, xI x6, xU, xU]) (st' := []) (fun _ _ _ k => e_istore_n dX10_runAll_34 rfl (i := 2) rfl (L' := [xR a, xI y1, xI x6, xU, xU]) rfl k) ?_
        refine ev_st (pc' := 40) (L' := [xR a, xI y1, xI x6, xU, xU]) (st' := [xI 1, xI (R a 20)]) (fun _ _ _ k => e_aload_n dX10_runAll_35 rfl (i := 0) (x := a) rfl (e_geti dX10_runAll_36 flX10_206 (kd10_0 h_a) (Or.inl rfl) (e_iconst dX10_runAll_39 (k4 rfl) k))) ?_
        refine ev_br2 (P := (R a 20) = 1) (pct := 43) (pcf := 50) (st' := []) (fun _ _ _ kt kf => e_cne dX10_runAll_40 (tgt := 50) rfl kt kf) (fun h7 => ?_) (fun h7 => ?_)
        · refine ev_st (pc' := 53) (L' := [xR a, xI y1, xI x6, xL (R a 21), xU]) (st' := [xL (R a 21)]) (fun _ _ _ k => e_aload_n dX10_runAll_43 rfl (i := 0) (x := a) rfl (e_getl dX10_runAll_44 flX10_192 (kd10_0 h_a) rfl (e_goto dX10_runAll_47 (tgt := 51) rfl (e_lstore_n dX10_runAll_51 rfl (i := 3) rfl (L' := [xR a, xI y1, xI x6, xL (R a 21), xU]) rfl (e_lload_n dX10_runAll_52 rfl (i := 3) (x := (R a 21)) rfl k))))) ?_
          refine ev_callS (As := [xL (R a 21)]) (st := []) (fun v8 => [xI (xz v8)]) dX10_runAll_53 mlX10_301 rfl rfl rfl rfl rfl rfl (c_X10_isCommand (d := d + 5) (R a 21)) (fun _ => xz01 _) (fun _ => rfl) (fun v8 => ?_)
          refine ev_br2 (P := v8 = true) (pct := 67) (pcf := 59) (st' := []) (fun _ _ _ kt kf => e_ifnez dX10_runAll_56 (tgt := 67) rfl kt kf) (fun h9 => ?_) (fun h9 => ?_)
          · refine ev_st (pc' := 69) (L' := [xR a, xI y1, xI x6, xL (R a 21), xU]) (st' := [xL (R a 21), xR a]) (fun _ _ _ k => e_aload_n dX10_runAll_67 rfl (i := 0) (x := a) rfl (e_lload_n dX10_runAll_68 rfl (i := 3) (x := (R a 21)) rfl k)) ?_
            refine ev_callV (As := [xL (R a 21)]) (st := []) (fun v10 => [xI (xz v10.1)]) dX10_runAll_69 mlX10_305 (kd10_0 h_a) rfl rfl rfl rfl rfl rfl (c_X10_readsNeeds (d := d) h_a (R a 21)) (fun _ => xz01 _) (fun _ => rfl) (fun v10 => ?_)
            refine ev_br2 (P := v10.1 = true) (pct := 75) (pcf := 83) (st' := []) (fun _ _ _ kt kf => e_ifeqz dX10_runAll_72 (tgt := 83) rfl kt kf) (fun h11 => ?_) (fun h11 => ?_)
            · refine ev_st (pc' := 80) (L' := [xR a, xI y1, xI x6, xL (R a 21), xU]) (st' := [xI 3, xI (v10.2 a 20)]) (fun _ _ _ k => e_aload_n dX10_runAll_75 rfl (i := 0) (x := a) rfl (e_geti dX10_runAll_76 flX10_206 (kd10_0 h_a) (Or.inl rfl) (e_iconst dX10_runAll_79 (k4 rfl) k))) ?_
              refine ev_br2 (P := (v10.2 a 20) = 3) (pct := 94) (pcf := 83) (st' := []) (fun _ _ _ kt kf => e_ceq dX10_runAll_80 (tgt := 94) rfl kt kf) (fun h12 => ?_) (fun h12 => ?_)
              · refine ev_st (pc' := 96) (L' := [xR a, xI y1, xI x6, xL (R a 21), xU]) (st' := [xL (R a 21), xR a]) (fun _ _ _ k => e_aload_n dX10_runAll_94 rfl (i := 0) (x := a) rfl (e_lload_n dX10_runAll_95 rfl (i := 3) (x := (R a 21)) rfl k)) ?_
                refine ev_callV (As := [xL (R a 21)]) (st := []) (fun v13 => [xI v13.1]) dX10_runAll_96 mlX10_308 (kd10_0 h_a) rfl rfl rfl rfl rfl rfl (c_X10_doCommand (d := d) h_a (R a 21)) (fun _ => trivial) (fun _ => rfl) (fun v13 => ?_)
                refine ev_br2 (P := 0 ≤ v13.1) (pct := 110) (pcf := 102) (st' := []) (fun _ _ _ kt kf => e_ifge dX10_runAll_99 (tgt := 110) rfl kt kf) (fun h14 => ?_) (fun h14 => ?_)
                · refine ev_letx (fun x15 ex15 => ?_)
                  refine ev_st (pc' := 113) (L' := [xR a, xI x15, xI x6, xL (R a 21), xU]) (st' := []) (fun _ _ _ k => e_iinc dX10_runAll_110 (i := 1) rfl (x := y1) rfl (y := x15) ex15 (L' := [xR a, xI x15, xI x6, xL (R a 21), xU]) rfl k) ?_
                  refine ev_st (pc' := 114) (L' := [xR a, xI x15, xI x6, xL (R a 21), xU]) (st' := [xR a]) (fun _ _ _ k => e_aload_n dX10_runAll_113 rfl (i := 0) (x := a) rfl k) ?_
                  refine ev_callV (As := []) (st := []) (fun v16 => []) dX10_runAll_114 mlX10_227 (kd10_0 h_a) rfl rfl rfl rfl rfl rfl (c_X10_next (d := d + 2) h_a) (fun _ => trivial) (fun _ => rfl) (fun v16 => ?_)
                  refine ev_st (pc' := 16) (L' := [xR a, xI x15, xU, xU, xU]) (st' := []) (fun _ _ _ k => e_goto dX10_runAll_117 (tgt := 16) rfl (e_fg [2, 3] k)) ?_
                  exact ih x15 v16
                · refine ev_st (pc' := 107) (L' := [xR a, xI y1, xI x6, xL (R a 21), xU]) (st' := []) (fun _ _ _ k => e_aload_n dX10_runAll_102 rfl (i := 0) (x := a) rfl (e_iload_n dX10_runAll_103 rfl (i := 2) (x := x6) rfl (e_puti dX10_runAll_104 flX10_298 (kd10_0 h_a) (Or.inl rfl) rfl k))) ?_
                  refine ev_letR (fun R17 eR17 => ?_)
                  refine ev_st (pc' := 16) (L' := [xR a, xI y1, xU, xU, xU]) (st' := []) (fun _ _ _ k => e_goto dX10_runAll_107 (tgt := 117) rfl (e_goto dX10_runAll_117 (tgt := 16) rfl (e_fg [2, 3] k))) ?_
                  exact ih y1 R17
              · refine ev_st (pc' := 91) (L' := [xR a, xI y1, xI x6, xL (R a 21), xU]) (st' := []) (fun _ _ _ k => e_aload_n dX10_runAll_83 rfl (i := 0) (x := a) rfl (e_aload_n dX10_runAll_84 rfl (i := 0) (x := a) rfl (e_geti dX10_runAll_85 flX10_215 (kd10_0 h_a) (Or.inl rfl) (e_puti dX10_runAll_88 flX10_298 (kd10_0 h_a) (Or.inl rfl) rfl k)))) ?_
                refine ev_letR (fun R18 eR18 => ?_)
                refine ev_st (pc' := 16) (L' := [xR a, xI y1, xU, xU, xU]) (st' := []) (fun _ _ _ k => e_goto dX10_runAll_91 (tgt := 117) rfl (e_goto dX10_runAll_117 (tgt := 16) rfl (e_fg [2, 3] k))) ?_
                exact ih y1 R18
            · refine ev_st (pc' := 91) (L' := [xR a, xI y1, xI x6, xL (R a 21), xU]) (st' := []) (fun _ _ _ k => e_aload_n dX10_runAll_83 rfl (i := 0) (x := a) rfl (e_aload_n dX10_runAll_84 rfl (i := 0) (x := a) rfl (e_geti dX10_runAll_85 flX10_215 (kd10_0 h_a) (Or.inl rfl) (e_puti dX10_runAll_88 flX10_298 (kd10_0 h_a) (Or.inl rfl) rfl k)))) ?_
              refine ev_letR (fun R19 eR19 => ?_)
              refine ev_st (pc' := 16) (L' := [xR a, xI y1, xU, xU, xU]) (st' := []) (fun _ _ _ k => e_goto dX10_runAll_91 (tgt := 117) rfl (e_goto dX10_runAll_117 (tgt := 16) rfl (e_fg [2, 3] k))) ?_
              exact ih y1 R19
          · refine ev_st (pc' := 64) (L' := [xR a, xI y1, xI x6, xL (R a 21), xU]) (st' := []) (fun _ _ _ k => e_aload_n dX10_runAll_59 rfl (i := 0) (x := a) rfl (e_iload_n dX10_runAll_60 rfl (i := 2) (x := x6) rfl (e_puti dX10_runAll_61 flX10_298 (kd10_0 h_a) (Or.inl rfl) rfl k))) ?_
            refine ev_letR (fun R20 eR20 => ?_)
            refine ev_st (pc' := 16) (L' := [xR a, xI y1, xU, xU, xU]) (st' := []) (fun _ _ _ k => e_goto dX10_runAll_64 (tgt := 117) rfl (e_goto dX10_runAll_117 (tgt := 16) rfl (e_fg [2, 3] k))) ?_
            exact ih y1 R20
        · refine ev_st (pc' := 53) (L' := [xR a, xI y1, xI x6, xL 0, xU]) (st' := [xL 0]) (fun _ _ _ k => e_lconst dX10_runAll_50 (i := 0) rfl (k8 rfl) (e_lstore_n dX10_runAll_51 rfl (i := 3) rfl (L' := [xR a, xI y1, xI x6, xL 0, xU]) rfl (e_lload_n dX10_runAll_52 rfl (i := 3) (x := 0) rfl k))) ?_
          refine ev_callS (As := [xL 0]) (st := []) (fun v21 => [xI (xz v21)]) dX10_runAll_53 mlX10_301 rfl rfl rfl rfl rfl rfl (c_X10_isCommand (d := d + 5) 0) (fun _ => xz01 _) (fun _ => rfl) (fun v21 => ?_)
          refine ev_br2 (P := v21 = true) (pct := 67) (pcf := 59) (st' := []) (fun _ _ _ kt kf => e_ifnez dX10_runAll_56 (tgt := 67) rfl kt kf) (fun h22 => ?_) (fun h22 => ?_)
          · refine ev_st (pc' := 69) (L' := [xR a, xI y1, xI x6, xL 0, xU]) (st' := [xL 0, xR a]) (fun _ _ _ k => e_aload_n dX10_runAll_67 rfl (i := 0) (x := a) rfl (e_lload_n dX10_runAll_68 rfl (i := 3) (x := 0) rfl k)) ?_
            refine ev_callV (As := [xL 0]) (st := []) (fun v23 => [xI (xz v23.1)]) dX10_runAll_69 mlX10_305 (kd10_0 h_a) rfl rfl rfl rfl rfl rfl (c_X10_readsNeeds (d := d) h_a 0) (fun _ => xz01 _) (fun _ => rfl) (fun v23 => ?_)
            refine ev_br2 (P := v23.1 = true) (pct := 75) (pcf := 83) (st' := []) (fun _ _ _ kt kf => e_ifeqz dX10_runAll_72 (tgt := 83) rfl kt kf) (fun h24 => ?_) (fun h24 => ?_)
            · refine ev_st (pc' := 80) (L' := [xR a, xI y1, xI x6, xL 0, xU]) (st' := [xI 3, xI (v23.2 a 20)]) (fun _ _ _ k => e_aload_n dX10_runAll_75 rfl (i := 0) (x := a) rfl (e_geti dX10_runAll_76 flX10_206 (kd10_0 h_a) (Or.inl rfl) (e_iconst dX10_runAll_79 (k4 rfl) k))) ?_
              refine ev_br2 (P := (v23.2 a 20) = 3) (pct := 94) (pcf := 83) (st' := []) (fun _ _ _ kt kf => e_ceq dX10_runAll_80 (tgt := 94) rfl kt kf) (fun h25 => ?_) (fun h25 => ?_)
              · refine ev_st (pc' := 96) (L' := [xR a, xI y1, xI x6, xL 0, xU]) (st' := [xL 0, xR a]) (fun _ _ _ k => e_aload_n dX10_runAll_94 rfl (i := 0) (x := a) rfl (e_lload_n dX10_runAll_95 rfl (i := 3) (x := 0) rfl k)) ?_
                refine ev_callV (As := [xL 0]) (st := []) (fun v26 => [xI v26.1]) dX10_runAll_96 mlX10_308 (kd10_0 h_a) rfl rfl rfl rfl rfl rfl (c_X10_doCommand (d := d) h_a 0) (fun _ => trivial) (fun _ => rfl) (fun v26 => ?_)
                refine ev_br2 (P := 0 ≤ v26.1) (pct := 110) (pcf := 102) (st' := []) (fun _ _ _ kt kf => e_ifge dX10_runAll_99 (tgt := 110) rfl kt kf) (fun h27 => ?_) (fun h27 => ?_)
                · refine ev_letx (fun x28 ex28 => ?_)
                  refine ev_st (pc' := 113) (L' := [xR a, xI x28, xI x6, xL 0, xU]) (st' := []) (fun _ _ _ k => e_iinc dX10_runAll_110 (i := 1) rfl (x := y1) rfl (y := x28) ex28 (L' := [xR a, xI x28, xI x6, xL 0, xU]) rfl k) ?_
                  refine ev_st (pc' := 114) (L' := [xR a, xI x28, xI x6, xL 0, xU]) (st' := [xR a]) (fun _ _ _ k => e_aload_n dX10_runAll_113 rfl (i := 0) (x := a) rfl k) ?_
                  refine ev_callV (As := []) (st := []) (fun v29 => []) dX10_runAll_114 mlX10_227 (kd10_0 h_a) rfl rfl rfl rfl rfl rfl (c_X10_next (d := d + 2) h_a) (fun _ => trivial) (fun _ => rfl) (fun v29 => ?_)
                  refine ev_st (pc' := 16) (L' := [xR a, xI x28, xU, xU, xU]) (st' := []) (fun _ _ _ k => e_goto dX10_runAll_117 (tgt := 16) rfl (e_fg [2, 3] k)) ?_
                  exact ih x28 v29
                · refine ev_st (pc' := 107) (L' := [xR a, xI y1, xI x6, xL 0, xU]) (st' := []) (fun _ _ _ k => e_aload_n dX10_runAll_102 rfl (i := 0) (x := a) rfl (e_iload_n dX10_runAll_103 rfl (i := 2) (x := x6) rfl (e_puti dX10_runAll_104 flX10_298 (kd10_0 h_a) (Or.inl rfl) rfl k))) ?_
                  refine ev_letR (fun R30 eR30 => ?_)
                  refine ev_st (pc' := 16) (L' := [xR a, xI y1, xU, xU, xU]) (st' := []) (fun _ _ _ k => e_goto dX10_runAll_107 (tgt := 117) rfl (e_goto dX10_runAll_117 (tgt := 16) rfl (e_fg [2, 3] k))) ?_
                  exact ih y1 R30
              · refine ev_st (pc' := 91) (L' := [xR a, xI y1, xI x6, xL 0, xU]) (st' := []) (fun _ _ _ k => e_aload_n dX10_runAll_83 rfl (i := 0) (x := a) rfl (e_aload_n dX10_runAll_84 rfl (i := 0) (x := a) rfl (e_geti dX10_runAll_85 flX10_215 (kd10_0 h_a) (Or.inl rfl) (e_puti dX10_runAll_88 flX10_298 (kd10_0 h_a) (Or.inl rfl) rfl k)))) ?_
                refine ev_letR (fun R31 eR31 => ?_)
                refine ev_st (pc' := 16) (L' := [xR a, xI y1, xU, xU, xU]) (st' := []) (fun _ _ _ k => e_goto dX10_runAll_91 (tgt := 117) rfl (e_goto dX10_runAll_117 (tgt := 16) rfl (e_fg [2, 3] k))) ?_
                exact ih y1 R31
            · refine ev_st (pc' := 91) (L' := [xR a, xI y1, xI x6, xL 0, xU]) (st' := []) (fun _ _ _ k => e_aload_n dX10_runAll_83 rfl (i := 0) (x := a) rfl (e_aload_n dX10_runAll_84 rfl (i := 0) (x := a) rfl (e_geti dX10_runAll_85 flX10_215 (kd10_0 h_a) (Or.inl rfl) (e_puti dX10_runAll_88 flX10_298 (kd10_0 h_a) (Or.inl rfl) rfl k)))) ?_
              refine ev_letR (fun R32 eR32 => ?_)
              refine ev_st (pc' := 16) (L' := [xR a, xI y1, xU, xU, xU]) (st' := []) (fun _ _ _ k => e_goto dX10_runAll_91 (tgt := 117) rfl (e_goto dX10_runAll_117 (tgt := 16) rfl (e_fg [2, 3] k))) ?_
              exact ih y1 R32
          · refine ev_st (pc' := 64) (L' := [xR a, xI y1, xI x6, xL 0, xU]) (st' := []) (fun _ _ _ k => e_aload_n dX10_runAll_59 rfl (i := 0) (x := a) rfl (e_iload_n dX10_runAll_60 rfl (i := 2) (x := x6) rfl (e_puti dX10_runAll_61 flX10_298 (kd10_0 h_a) (Or.inl rfl) rfl k))) ?_
            refine ev_letR (fun R33 eR33 => ?_)
            refine ev_st (pc' := 16) (L' := [xR a, xI y1, xU, xU, xU]) (st' := []) (fun _ _ _ k => e_goto dX10_runAll_64 (tgt := 117) rfl (e_goto dX10_runAll_117 (tgt := 16) rfl (e_fg [2, 3] k))) ?_
            exact ih y1 R33
set_option maxRecDepth 20000 in
set_option maxHeartbeats 4000000 in
theorem c_X10_runAll {l : Launch} {g : xG} {d : Nat} {A : xA} {R : xN} {a : Nat} (h_a : sh 10 A a)  : Ev l g (d + 6) mX10_runAll 0 [xR a, xU, xU, xU, xU] [] A R (fun v : Int × xN => some (xI v.1)) (fun v => v.2) (f_X10_runAll a R) := by
  rw [f_X10_runAll]
  refine ev_st (pc' := 7) (L' := [xR a, xI 0, xU, xU, xU]) (st' := []) (fun _ _ _ k => e_iconst dX10_runAll_0 (k4 rfl) (e_istore_n dX10_runAll_1 rfl (i := 1) rfl (L' := [xR a, xI 0, xU, xU, xU]) rfl (e_aload_n dX10_runAll_2 rfl (i := 0) (x := a) rfl (e_iconst dX10_runAll_3 (k4 rfl) (e_puti dX10_runAll_4 flX10_196 (kd10_0 h_a) (Or.inl rfl) rfl k))))) ?_
  refine ev_letR (fun R1 eR1 => ?_)
  refine ev_st (pc' := 12) (L' := [xR a, xI 0, xU, xU, xU]) (st' := []) (fun _ _ _ k => e_aload_n dX10_runAll_7 rfl (i := 0) (x := a) rfl (e_iconst dX10_runAll_8 (k4 rfl) (e_puti dX10_runAll_9 flX10_298 (kd10_0 h_a) (Or.inl rfl) rfl k))) ?_
  refine ev_letR (fun R2 eR2 => ?_)
  refine ev_st (pc' := 13) (L' := [xR a, xI 0, xU, xU, xU]) (st' := [xR a]) (fun _ _ _ k => e_aload_n dX10_runAll_12 rfl (i := 0) (x := a) rfl k) ?_
  refine ev_callV (As := []) (st := []) (fun v3 => []) dX10_runAll_13 mlX10_227 (kd10_0 h_a) rfl rfl rfl rfl rfl rfl (c_X10_next (d := d + 2) h_a) (fun _ => trivial) (fun _ => rfl) (fun v3 => ?_)
  refine lc_X10_runAll_16 h_a (fun z34 R35 => ?_) 6000 0 v3
  exact ev_ret (e_iload_n dX10_runAll_120 rfl (i := 1) (x := z34) rfl (e_iret dX10_runAll_121))
def lp_X10_run_2 (a : Nat) : Nat → Int → xN → (Int → xN → Option (Int × xN)) → Option (Int × xN)
  | 0, _, _, _ => none
  | n + 1, y1, R, X =>
    if 464 ≤ y1 then
    X y1 R
    else
    if 0 ≤ y1 ∧ y1 < 464 then
    if 0 ≤ y1 ∧ y1 < 464 then
    xlet (xup R (a + 3) (y1).toNat (R (a + 1) (y1).toNat)) (fun R4 =>
    xlet (w4 (y1 + 1)) (fun x5 =>
    lp_X10_run_2 a n x5 R4 X))
    else none
    else none
def lp_X10_run_87 (a : Nat) (p1 : Int) : Nat → Int → xN → (Int → xN → Option (Int × xN)) → Option (Int × xN)
  | 0, _, _, _ => none
  | n + 1, y2, R, X =>
    if 464 ≤ y2 then
    X y2 R
    else
    if 0 ≤ y2 ∧ y2 < 464 then
    xlet (R (a + 1) (y2).toNat) (fun x14 =>
    if 0 ≤ y2 ∧ y2 < 464 then
    if 0 ≤ y2 ∧ y2 < 464 then
    xlet (xup R (a + 1) (y2).toNat (R (a + 3) (y2).toNat)) (fun R17 =>
    if 0 ≤ y2 ∧ y2 < 464 then
    xlet (xup R17 (a + 3) (y2).toNat x14) (fun R19 =>
    xlet (w4 (y2 + 1)) (fun x20 =>
    lp_X10_run_87 a p1 n x20 R19 X))
    else none)
    else none
    else none)
    else none
def lp_X10_run_132 (a : Nat) (p1 : Int) : Nat → Int → xN → (Int → xN → Option (Int × xN)) → Option (Int × xN)
  | 0, _, _, _ => none
  | n + 1, y2, R, X =>
    if 464 ≤ y2 then
    X y2 R
    else
    if 0 ≤ y2 ∧ y2 < 464 then
    if 0 ≤ y2 ∧ y2 < 464 then
    xlet (xup R (a + 1) (y2).toNat (R (a + 3) (y2).toNat)) (fun R27 =>
    xlet (w4 (y2 + 1)) (fun x28 =>
    lp_X10_run_132 a p1 n x28 R27 X))
    else none
    else none
def lp_X10_run_51 (a : Nat) : Nat → Int → xN → (Int → xN → Option (Int × xN)) → Option (Int × xN)
  | 0, _, _, _ => none
  | n + 1, y2, R, X =>
    if 464 ≤ y2 then
    X y2 R
    else
    if 0 ≤ y2 ∧ y2 < 464 then
    if 0 ≤ y2 ∧ y2 < 464 then
    xlet (xup R (a + 1) (y2).toNat (R (a + 3) (y2).toNat)) (fun R35 =>
    xlet (w4 (y2 + 1)) (fun x36 =>
    lp_X10_run_51 a n x36 R35 X))
    else none
    else none
def f_X10_run (a : Nat) (R : xN) : Option (Int × xN) :=
  lp_X10_run_2 a 6000 0 R (fun z6 R7 =>
  xlet (xup R7 a 6 1) (fun R8 =>
  (f_X10_runAll a R8).bind (fun v9 =>
  xlet (xup v9.2 a 6 0) (fun R10 =>
  if (R10 a 26) < 0 then
  lp_X10_run_87 a v9.1 6000 0 R10 (fun z21 R22 =>
  (f_X10_record a R22).bind (fun v23 =>
  lp_X10_run_132 a v9.1 6000 0 v23 (fun z29 R30 =>
  xlet (xup R30 a 4 0) (fun R31 =>
  some (v9.1, R31)))))
  else
  lp_X10_run_51 a 6000 0 R10 (fun z37 R38 =>
  some ((w4 ((-1000) - (R38 a 26))), R38))))))
set_option maxRecDepth 20000 in
set_option maxHeartbeats 4000000 in
theorem lc_X10_run_2 {l : Launch} {g : xG} {d : Nat} {A : xA} {a : Nat} (h_a : sh 10 A a)  {X : Int → xN → Option (Int × xN)} (hX : ∀ (y1 : Int) (R : xN), Ev l g (d + 7) mX10_run 27 [xR a, xU, xU, xU] [] A R (fun v : Int × xN => some (xI v.1)) (fun v => v.2) (X y1 R)) (n : Nat) (y1 : Int) (R : xN) : Ev l g (d + 7) mX10_run 2 [xR a, xI y1, xU, xU] [] A R (fun v : Int × xN => some (xI v.1)) (fun v => v.2) (lp_X10_run_2 a n y1 R X) := by
  induction n generalizing y1 R with
  | zero => exact ev_none
  | succ n ih =>
    rw [lp_X10_run_2]
    refine ev_st (pc' := 6) (L' := [xR a, xI y1, xU, xU]) (st' := [xI 464, xI y1]) (fun _ _ _ k => e_iload_n dX10_run_2 rfl (i := 1) (x := y1) rfl (e_sipush dX10_run_3 rfl (k4 rfl) k)) ?_
    refine ev_br2 (P := 464 ≤ y1) (pct := 27) (pcf := 9) (st' := []) (fun _ _ _ kt kf => e_cge dX10_run_6 (tgt := 27) rfl kt kf) (fun h1 => ?_) (fun h1 => ?_)
    · refine ev_st (pc' := 27) (L' := [xR a, xU, xU, xU]) (st' := []) (fun _ _ _ k => e_fg [1] k) ?_
      exact hX y1 R
    · refine ev_st (pc' := 19) (L' := [xR a, xI y1, xU, xU]) (st' := [xI y1, xR (a + 1), xI y1, xR (a + 3)]) (fun _ _ _ k => e_aload_n dX10_run_9 rfl (i := 0) (x := a) rfl (e_getr dX10_run_10 flX10_16 (kd10_0 h_a) rfl (rf10_0_2 h_a) (e_iload_n dX10_run_13 rfl (i := 1) (x := y1) rfl (e_aload_n dX10_run_14 rfl (i := 0) (x := a) rfl (e_getr dX10_run_15 flX10_7 (kd10_0 h_a) rfl (rf10_0_0 h_a) (e_iload_n dX10_run_18 rfl (i := 1) (x := y1) rfl k)))))) ?_
      refine ev_chk (fun h2 => ?_)
      refine ev_st (pc' := 20) (L' := [xR a, xI y1, xU, xU]) (st' := [xI (R (a + 1) (y1).toNat), xI y1, xR (a + 3)]) (fun _ _ _ k => e_iald dX10_run_19 (kd10_1 h_a) h2.1 h2.2 k) ?_
      refine ev_chk (fun h3 => ?_)
      refine ev_st (pc' := 21) (L' := [xR a, xI y1, xU, xU]) (st' := []) (fun _ _ _ k => e_iast dX10_run_20 (kd10_3 h_a) h3.1 h3.2 k) ?_
      refine ev_letR (fun R4 eR4 => ?_)
      refine ev_letx (fun x5 ex5 => ?_)
      refine ev_st (pc' := 24) (L' := [xR a, xI x5, xU, xU]) (st' := []) (fun _ _ _ k => e_iinc dX10_run_21 (i := 1) rfl (x := y1) rfl (y := x5) ex5 (L' := [xR a, xI x5, xU, xU]) rfl k) ?_
      refine ev_st (pc' := 2) (L' := [xR a, xI x5, xU, xU]) (st' := []) (fun _ _ _ k => e_goto dX10_run_24 (tgt := 2) rfl k) ?_
      exact ih x5 R4
set_option maxRecDepth 20000 in
set_option maxHeartbeats 4000000 in
theorem lc_X10_run_87 {l : Launch} {g : xG} {d : Nat} {A : xA} {a : Nat} (h_a : sh 10 A a) (p1 : Int) {X : Int → xN → Option (Int × xN)} (hX : ∀ (y2 : Int) (R : xN), Ev l g (d + 7) mX10_run 126 [xR a, xI p1, xU, xU] [] A R (fun v : Int × xN => some (xI v.1)) (fun v => v.2) (X y2 R)) (n : Nat) (y2 : Int) (R : xN) : Ev l g (d + 7) mX10_run 87 [xR a, xI p1, xI y2, xU] [] A R (fun v : Int × xN => some (xI v.1)) (fun v => v.2) (lp_X10_run_87 a p1 n y2 R X) := by
  induction n generalizing y2 R with
  | zero => exact ev_none
  | succ n ih =>
    rw [lp_X10_run_87]
    refine ev_st (pc' := 91) (L' := [xR a, xI p1, xI y2, xU]) (st' := [xI 464, xI y2]) (fun _ _ _ k => e_iload_n dX10_run_87 rfl (i := 2) (x := y2) rfl (e_sipush dX10_run_88 rfl (k4 rfl) k)) ?_
    refine ev_br2 (P := 464 ≤ y2) (pct := 126) (pcf := 94) (st' := []) (fun _ _ _ kt kf => e_cge dX10_run_91 (tgt := 126) rfl kt kf) (fun h12 => ?_) (fun h12 => ?_)
    · refine ev_st (pc' := 126) (L' := [xR a, xI p1, xU, xU]) (st' := []) (fun _ _ _ k => e_fg [2] k) ?_
      exact hX y2 R
    · refine ev_st (pc' := 99) (L' := [xR a, xI p1, xI y2, xU]) (st' := [xI y2, xR (a + 1)]) (fun _ _ _ k => e_aload_n dX10_run_94 rfl (i := 0) (x := a) rfl (e_getr dX10_run_95 flX10_7 (kd10_0 h_a) rfl (rf10_0_0 h_a) (e_iload_n dX10_run_98 rfl (i := 2) (x := y2) rfl k))) ?_
      refine ev_chk (fun h13 => ?_)
      refine ev_st (pc' := 100) (L' := [xR a, xI p1, xI y2, xU]) (st' := [xI (R (a + 1) (y2).toNat)]) (fun _ _ _ k => e_iald dX10_run_99 (kd10_1 h_a) h13.1 h13.2 k) ?_
      refine ev_leti (fun x14 ex14 => ?_)
      refine ev_st (pc' := 101) (L' := [xR a, xI p1, xI y2, xI x14]) (st' := []) (fun _ _ _ k => e_istore_n dX10_run_100 rfl (i := 3) rfl (L' := [xR a, xI p1, xI y2, xI x14]) rfl k) ?_
      refine ev_st (pc' := 111) (L' := [xR a, xI p1, xI y2, xI x14]) (st' := [xI y2, xR (a + 3), xI y2, xR (a + 1)]) (fun _ _ _ k => e_aload_n dX10_run_101 rfl (i := 0) (x := a) rfl (e_getr dX10_run_102 flX10_7 (kd10_0 h_a) rfl (rf10_0_0 h_a) (e_iload_n dX10_run_105 rfl (i := 2) (x := y2) rfl (e_aload_n dX10_run_106 rfl (i := 0) (x := a) rfl (e_getr dX10_run_107 flX10_16 (kd10_0 h_a) rfl (rf10_0_2 h_a) (e_iload_n dX10_run_110 rfl (i := 2) (x := y2) rfl k)))))) ?_
      refine ev_chk (fun h15 => ?_)
      refine ev_st (pc' := 112) (L' := [xR a, xI p1, xI y2, xI x14]) (st' := [xI (R (a + 3) (y2).toNat), xI y2, xR (a + 1)]) (fun _ _ _ k => e_iald dX10_run_111 (kd10_3 h_a) h15.1 h15.2 k) ?_
      refine ev_chk (fun h16 => ?_)
      refine ev_st (pc' := 113) (L' := [xR a, xI p1, xI y2, xI x14]) (st' := []) (fun _ _ _ k => e_iast dX10_run_112 (kd10_1 h_a) h16.1 h16.2 k) ?_
      refine ev_letR (fun R17 eR17 => ?_)
      refine ev_st (pc' := 119) (L' := [xR a, xI p1, xI y2, xI x14]) (st' := [xI x14, xI y2, xR (a + 3)]) (fun _ _ _ k => e_aload_n dX10_run_113 rfl (i := 0) (x := a) rfl (e_getr dX10_run_114 flX10_16 (kd10_0 h_a) rfl (rf10_0_2 h_a) (e_iload_n dX10_run_117 rfl (i := 2) (x := y2) rfl (e_iload_n dX10_run_118 rfl (i := 3) (x := x14) rfl k)))) ?_
      refine ev_chk (fun h18 => ?_)
      refine ev_st (pc' := 120) (L' := [xR a, xI p1, xI y2, xI x14]) (st' := []) (fun _ _ _ k => e_iast dX10_run_119 (kd10_3 h_a) h18.1 h18.2 k) ?_
      refine ev_letR (fun R19 eR19 => ?_)
      refine ev_letx (fun x20 ex20 => ?_)
      refine ev_st (pc' := 123) (L' := [xR a, xI p1, xI x20, xI x14]) (st' := []) (fun _ _ _ k => e_iinc dX10_run_120 (i := 2) rfl (x := y2) rfl (y := x20) ex20 (L' := [xR a, xI p1, xI x20, xI x14]) rfl k) ?_
      refine ev_st (pc' := 87) (L' := [xR a, xI p1, xI x20, xU]) (st' := []) (fun _ _ _ k => e_goto dX10_run_123 (tgt := 87) rfl (e_fg [3] k)) ?_
      exact ih x20 R19
set_option maxRecDepth 20000 in
set_option maxHeartbeats 4000000 in
theorem lc_X10_run_132 {l : Launch} {g : xG} {d : Nat} {A : xA} {a : Nat} (h_a : sh 10 A a) (p1 : Int) {X : Int → xN → Option (Int × xN)} (hX : ∀ (y2 : Int) (R : xN), Ev l g (d + 7) mX10_run 157 [xR a, xI p1, xU, xU] [] A R (fun v : Int × xN => some (xI v.1)) (fun v => v.2) (X y2 R)) (n : Nat) (y2 : Int) (R : xN) : Ev l g (d + 7) mX10_run 132 [xR a, xI p1, xI y2, xU] [] A R (fun v : Int × xN => some (xI v.1)) (fun v => v.2) (lp_X10_run_132 a p1 n y2 R X) := by
  induction n generalizing y2 R with
  | zero => exact ev_none
  | succ n ih =>
    rw [lp_X10_run_132]
    refine ev_st (pc' := 136) (L' := [xR a, xI p1, xI y2, xU]) (st' := [xI 464, xI y2]) (fun _ _ _ k => e_iload_n dX10_run_132 rfl (i := 2) (x := y2) rfl (e_sipush dX10_run_133 rfl (k4 rfl) k)) ?_
    refine ev_br2 (P := 464 ≤ y2) (pct := 157) (pcf := 139) (st' := []) (fun _ _ _ kt kf => e_cge dX10_run_136 (tgt := 157) rfl kt kf) (fun h24 => ?_) (fun h24 => ?_)
    · refine ev_st (pc' := 157) (L' := [xR a, xI p1, xU, xU]) (st' := []) (fun _ _ _ k => e_fg [2] k) ?_
      exact hX y2 R
    · refine ev_st (pc' := 149) (L' := [xR a, xI p1, xI y2, xU]) (st' := [xI y2, xR (a + 3), xI y2, xR (a + 1)]) (fun _ _ _ k => e_aload_n dX10_run_139 rfl (i := 0) (x := a) rfl (e_getr dX10_run_140 flX10_7 (kd10_0 h_a) rfl (rf10_0_0 h_a) (e_iload_n dX10_run_143 rfl (i := 2) (x := y2) rfl (e_aload_n dX10_run_144 rfl (i := 0) (x := a) rfl (e_getr dX10_run_145 flX10_16 (kd10_0 h_a) rfl (rf10_0_2 h_a) (e_iload_n dX10_run_148 rfl (i := 2) (x := y2) rfl k)))))) ?_
      refine ev_chk (fun h25 => ?_)
      refine ev_st (pc' := 150) (L' := [xR a, xI p1, xI y2, xU]) (st' := [xI (R (a + 3) (y2).toNat), xI y2, xR (a + 1)]) (fun _ _ _ k => e_iald dX10_run_149 (kd10_3 h_a) h25.1 h25.2 k) ?_
      refine ev_chk (fun h26 => ?_)
      refine ev_st (pc' := 151) (L' := [xR a, xI p1, xI y2, xU]) (st' := []) (fun _ _ _ k => e_iast dX10_run_150 (kd10_1 h_a) h26.1 h26.2 k) ?_
      refine ev_letR (fun R27 eR27 => ?_)
      refine ev_letx (fun x28 ex28 => ?_)
      refine ev_st (pc' := 154) (L' := [xR a, xI p1, xI x28, xU]) (st' := []) (fun _ _ _ k => e_iinc dX10_run_151 (i := 2) rfl (x := y2) rfl (y := x28) ex28 (L' := [xR a, xI p1, xI x28, xU]) rfl k) ?_
      refine ev_st (pc' := 132) (L' := [xR a, xI p1, xI x28, xU]) (st' := []) (fun _ _ _ k => e_goto dX10_run_154 (tgt := 132) rfl k) ?_
      exact ih x28 R27
set_option maxRecDepth 20000 in
set_option maxHeartbeats 4000000 in
theorem lc_X10_run_51 {l : Launch} {g : xG} {d : Nat} {A : xA} {a : Nat} (h_a : sh 10 A a)  {X : Int → xN → Option (Int × xN)} (hX : ∀ (y2 : Int) (R : xN), Ev l g (d + 7) mX10_run 76 [xR a, xU, xU, xU] [] A R (fun v : Int × xN => some (xI v.1)) (fun v => v.2) (X y2 R)) (n : Nat) (y2 : Int) (R : xN) : Ev l g (d + 7) mX10_run 51 [xR a, xU, xI y2, xU] [] A R (fun v : Int × xN => some (xI v.1)) (fun v => v.2) (lp_X10_run_51 a n y2 R X) := by
  induction n generalizing y2 R with
  | zero => exact ev_none
  | succ n ih =>
    rw [lp_X10_run_51]
    refine ev_st (pc' := 55) (L' := [xR a, xU, xI y2, xU]) (st' := [xI 464, xI y2]) (fun _ _ _ k => e_iload_n dX10_run_51 rfl (i := 2) (x := y2) rfl (e_sipush dX10_run_52 rfl (k4 rfl) k)) ?_
    refine ev_br2 (P := 464 ≤ y2) (pct := 76) (pcf := 58) (st' := []) (fun _ _ _ kt kf => e_cge dX10_run_55 (tgt := 76) rfl kt kf) (fun h32 => ?_) (fun h32 => ?_)
    · refine ev_st (pc' := 76) (L' := [xR a, xU, xU, xU]) (st' := []) (fun _ _ _ k => e_fg [2] k) ?_
      exact hX y2 R
    · refine ev_st (pc' := 68) (L' := [xR a, xU, xI y2, xU]) (st' := [xI y2, xR (a + 3), xI y2, xR (a + 1)]) (fun _ _ _ k => e_aload_n dX10_run_58 rfl (i := 0) (x := a) rfl (e_getr dX10_run_59 flX10_7 (kd10_0 h_a) rfl (rf10_0_0 h_a) (e_iload_n dX10_run_62 rfl (i := 2) (x := y2) rfl (e_aload_n dX10_run_63 rfl (i := 0) (x := a) rfl (e_getr dX10_run_64 flX10_16 (kd10_0 h_a) rfl (rf10_0_2 h_a) (e_iload_n dX10_run_67 rfl (i := 2) (x := y2) rfl k)))))) ?_
      refine ev_chk (fun h33 => ?_)
      refine ev_st (pc' := 69) (L' := [xR a, xU, xI y2, xU]) (st' := [xI (R (a + 3) (y2).toNat), xI y2, xR (a + 1)]) (fun _ _ _ k => e_iald dX10_run_68 (kd10_3 h_a) h33.1 h33.2 k) ?_
      refine ev_chk (fun h34 => ?_)
      refine ev_st (pc' := 70) (L' := [xR a, xU, xI y2, xU]) (st' := []) (fun _ _ _ k => e_iast dX10_run_69 (kd10_1 h_a) h34.1 h34.2 k) ?_
      refine ev_letR (fun R35 eR35 => ?_)
      refine ev_letx (fun x36 ex36 => ?_)
      refine ev_st (pc' := 73) (L' := [xR a, xU, xI x36, xU]) (st' := []) (fun _ _ _ k => e_iinc dX10_run_70 (i := 2) rfl (x := y2) rfl (y := x36) ex36 (L' := [xR a, xU, xI x36, xU]) rfl k) ?_
      refine ev_st (pc' := 51) (L' := [xR a, xU, xI x36, xU]) (st' := []) (fun _ _ _ k => e_goto dX10_run_73 (tgt := 51) rfl k) ?_
      exact ih x36 R35
set_option maxRecDepth 20000 in
set_option maxHeartbeats 4000000 in
theorem c_X10_run {l : Launch} {g : xG} {d : Nat} {A : xA} {R : xN} {a : Nat} (h_a : sh 10 A a)  : Ev l g (d + 7) mX10_run 0 [xR a, xU, xU, xU] [] A R (fun v : Int × xN => some (xI v.1)) (fun v => v.2) (f_X10_run a R) := by
  rw [f_X10_run]
  refine ev_st (pc' := 2) (L' := [xR a, xI 0, xU, xU]) (st' := []) (fun _ _ _ k => e_iconst dX10_run_0 (k4 rfl) (e_istore_n dX10_run_1 rfl (i := 1) rfl (L' := [xR a, xI 0, xU, xU]) rfl k)) ?_
  refine lc_X10_run_2 h_a (fun z6 R7 => ?_) 6000 0 R
  refine ev_st (pc' := 32) (L' := [xR a, xU, xU, xU]) (st' := []) (fun _ _ _ k => e_aload_n dX10_run_27 rfl (i := 0) (x := a) rfl (e_iconst dX10_run_28 (k4 rfl) (e_putz dX10_run_29 flX10_65 (kd10_0 h_a) (Or.inl rfl) rfl (Or.inr rfl) k))) ?_
  refine ev_letR (fun R8 eR8 => ?_)
  refine ev_st (pc' := 33) (L' := [xR a, xU, xU, xU]) (st' := [xR a]) (fun _ _ _ k => e_aload_n dX10_run_32 rfl (i := 0) (x := a) rfl k) ?_
  refine ev_callV (As := []) (st := []) (fun v9 => [xI v9.1]) dX10_run_33 mlX10_312 (kd10_0 h_a) rfl rfl rfl rfl rfl rfl (c_X10_runAll (d := d) h_a) (fun _ => trivial) (fun _ => rfl) (fun v9 => ?_)
  refine ev_st (pc' := 42) (L' := [xR a, xI v9.1, xU, xU]) (st' := []) (fun _ _ _ k => e_istore_n dX10_run_36 rfl (i := 1) rfl (L' := [xR a, xI v9.1, xU, xU]) rfl (e_aload_n dX10_run_37 rfl (i := 0) (x := a) rfl (e_iconst dX10_run_38 (k4 rfl) (e_putz dX10_run_39 flX10_65 (kd10_0 h_a) (Or.inl rfl) rfl (Or.inl rfl) k)))) ?_
  refine ev_letR (fun R10 eR10 => ?_)
  refine ev_st (pc' := 46) (L' := [xR a, xI v9.1, xU, xU]) (st' := [xI (R10 a 26)]) (fun _ _ _ k => e_aload_n dX10_run_42 rfl (i := 0) (x := a) rfl (e_geti dX10_run_43 flX10_298 (kd10_0 h_a) (Or.inl rfl) k)) ?_
  refine ev_br2 (P := (R10 a 26) < 0) (pct := 85) (pcf := 49) (st' := []) (fun _ _ _ kt kf => e_iflt dX10_run_46 (tgt := 85) rfl kt kf) (fun h11 => ?_) (fun h11 => ?_)
  · refine ev_st (pc' := 87) (L' := [xR a, xI v9.1, xI 0, xU]) (st' := []) (fun _ _ _ k => e_iconst dX10_run_85 (k4 rfl) (e_istore_n dX10_run_86 rfl (i := 2) rfl (L' := [xR a, xI v9.1, xI 0, xU]) rfl k)) ?_
    refine lc_X10_run_87 h_a v9.1 (fun z21 R22 => ?_) 6000 0 R10
    refine ev_st (pc' := 127) (L' := [xR a, xI v9.1, xU, xU]) (st' := [xR a]) (fun _ _ _ k => e_aload_n dX10_run_126 rfl (i := 0) (x := a) rfl k) ?_
    refine ev_callV (As := []) (st := []) (fun v23 => []) dX10_run_127 mlX10_69 (kd10_0 h_a) rfl rfl rfl rfl rfl rfl (c_X10_record (d := d + 6) h_a) (fun _ => trivial) (fun _ => rfl) (fun v23 => ?_)
    refine ev_st (pc' := 132) (L' := [xR a, xI v9.1, xI 0, xU]) (st' := []) (fun _ _ _ k => e_iconst dX10_run_130 (k4 rfl) (e_istore_n dX10_run_131 rfl (i := 2) rfl (L' := [xR a, xI v9.1, xI 0, xU]) rfl k)) ?_
    refine lc_X10_run_132 h_a v9.1 (fun z29 R30 => ?_) 6000 0 v23
    refine ev_st (pc' := 162) (L' := [xR a, xI v9.1, xU, xU]) (st' := []) (fun _ _ _ k => e_aload_n dX10_run_157 rfl (i := 0) (x := a) rfl (e_iconst dX10_run_158 (k4 rfl) (e_puti dX10_run_159 flX10_181 (kd10_0 h_a) (Or.inl rfl) rfl k))) ?_
    refine ev_letR (fun R31 eR31 => ?_)
    exact ev_ret (e_iload_n dX10_run_162 rfl (i := 1) (x := v9.1) rfl (e_iret dX10_run_163))
  · refine ev_st (pc' := 51) (L' := [xR a, xU, xI 0, xU]) (st' := []) (fun _ _ _ k => e_iconst dX10_run_49 (k4 rfl) (e_istore_n dX10_run_50 rfl (i := 2) rfl (L' := [xR a, xI v9.1, xI 0, xU]) rfl (e_fg [1] k))) ?_
    refine lc_X10_run_51 h_a (fun z37 R38 => ?_) 6000 0 R10
    exact ev_ret (e_sipush dX10_run_76 rfl (k4 rfl) (e_aload_n dX10_run_79 rfl (i := 0) (x := a) rfl (e_geti dX10_run_80 flX10_298 (kd10_0 h_a) (Or.inl rfl) (e_isub dX10_run_83 (e_iret dX10_run_84)))))
def lp_X10_foldsNow_4 (a : Nat) (R : xN) : Nat → Int → Int → (Int → Int → Option (Int)) → Option (Int)
  | 0, _, _, _ => none
  | n + 1, y1, y2, X =>
    if (R (a + 1) 2) ≤ y2 then
    X y1 y2
    else
    if 0 ≤ (w4 (3 + y2)) ∧ (w4 (3 + y2)) < 464 then
    xlet (w4 ((w4 (10 * y1)) + (R (a + 1) ((w4 (3 + y2))).toNat))) (fun x3 =>
    xlet (w4 (y2 + 1)) (fun x4 =>
    lp_X10_foldsNow_4 a R n x3 x4 X))
    else none
def f_X10_foldsNow (a : Nat) (R : xN) : Option (Int) :=
  lp_X10_foldsNow_4 a R 6000 0 0 (fun z5 z6 =>
  some z5)
set_option maxRecDepth 20000 in
set_option maxHeartbeats 4000000 in
theorem lc_X10_foldsNow_4 {l : Launch} {g : xG} {d : Nat} {A : xA} {a : Nat} (h_a : sh 10 A a) (R : xN) {X : Int → Int → Option (Int)} (hX : ∀ (y1 : Int) (y2 : Int), Ev l g (d) mX10_foldsNow 34 [xU, xI y1, xU] [] A R (fun v : Int => some (xI v)) (fun _ => R) (X y1 y2)) (n : Nat) (y1 : Int) (y2 : Int) : Ev l g (d) mX10_foldsNow 4 [xR a, xI y1, xI y2] [] A R (fun v : Int => some (xI v)) (fun _ => R) (lp_X10_foldsNow_4 a R n y1 y2 X) := by
  induction n generalizing y1 y2 with
  | zero => exact ev_none
  | succ n ih =>
    rw [lp_X10_foldsNow_4]
    refine ev_st (pc' := 11) (L' := [xR a, xI y1, xI y2]) (st' := [xI (R (a + 1) 2), xI y2]) (fun _ _ _ k => e_iload_n dX10_foldsNow_4 rfl (i := 2) (x := y2) rfl (e_aload_n dX10_foldsNow_5 rfl (i := 0) (x := a) rfl (e_getr dX10_foldsNow_6 flX10_7 (kd10_0 h_a) rfl (rf10_0_0 h_a) (e_iconst dX10_foldsNow_9 (k4 rfl) (e_iald dX10_foldsNow_10 (kd10_1 h_a) (by decide) (by decide) k))))) ?_
    refine ev_br2 (P := (R (a + 1) 2) ≤ y2) (pct := 34) (pcf := 14) (st' := []) (fun _ _ _ kt kf => e_cge dX10_foldsNow_11 (tgt := 34) rfl kt kf) (fun h1 => ?_) (fun h1 => ?_)
    · refine ev_st (pc' := 34) (L' := [xU, xI y1, xU]) (st' := []) (fun _ _ _ k => e_fg [0, 2] k) ?_
      exact hX y1 y2
    · refine ev_st (pc' := 25) (L' := [xR a, xI y1, xI y2]) (st' := [xI (w4 (3 + y2)), xR (a + 1), xI (w4 (10 * y1))]) (fun _ _ _ k => e_bipush dX10_foldsNow_14 rfl (k4 rfl) (e_iload_n dX10_foldsNow_16 rfl (i := 1) (x := y1) rfl (e_imul dX10_foldsNow_17 (e_aload_n dX10_foldsNow_18 rfl (i := 0) (x := a) rfl (e_getr dX10_foldsNow_19 flX10_7 (kd10_0 h_a) rfl (rf10_0_0 h_a) (e_iconst dX10_foldsNow_22 (k4 rfl) (e_iload_n dX10_foldsNow_23 rfl (i := 2) (x := y2) rfl (e_iadd dX10_foldsNow_24 k)))))))) ?_
      refine ev_chk (fun h2 => ?_)
      refine ev_st (pc' := 26) (L' := [xR a, xI y1, xI y2]) (st' := [xI (R (a + 1) ((w4 (3 + y2))).toNat), xI (w4 (10 * y1))]) (fun _ _ _ k => e_iald dX10_foldsNow_25 (kd10_1 h_a) h2.1 h2.2 k) ?_
      refine ev_st (pc' := 27) (L' := [xR a, xI y1, xI y2]) (st' := [xI (w4 ((w4 (10 * y1)) + (R (a + 1) ((w4 (3 + y2))).toNat)))]) (fun _ _ _ k => e_iadd dX10_foldsNow_26 k) ?_
      refine ev_leti (fun x3 ex3 => ?_)
      refine ev_st (pc' := 28) (L' := [xR a, xI x3, xI y2]) (st' := []) (fun _ _ _ k => e_istore_n dX10_foldsNow_27 rfl (i := 1) rfl (L' := [xR a, xI x3, xI y2]) rfl k) ?_
      refine ev_letx (fun x4 ex4 => ?_)
      refine ev_st (pc' := 31) (L' := [xR a, xI x3, xI x4]) (st' := []) (fun _ _ _ k => e_iinc dX10_foldsNow_28 (i := 2) rfl (x := y2) rfl (y := x4) ex4 (L' := [xR a, xI x3, xI x4]) rfl k) ?_
      refine ev_st (pc' := 4) (L' := [xR a, xI x3, xI x4]) (st' := []) (fun _ _ _ k => e_goto dX10_foldsNow_31 (tgt := 4) rfl k) ?_
      exact ih x3 x4
set_option maxRecDepth 20000 in
set_option maxHeartbeats 4000000 in
theorem c_X10_foldsNow {l : Launch} {g : xG} {d : Nat} {A : xA} {R : xN} {a : Nat} (h_a : sh 10 A a)  : Ev l g (d) mX10_foldsNow 0 [xR a, xU, xU] [] A R (fun v : Int => some (xI v)) (fun _ => R) (f_X10_foldsNow a R) := by
  rw [f_X10_foldsNow]
  refine ev_st (pc' := 4) (L' := [xR a, xI 0, xI 0]) (st' := []) (fun _ _ _ k => e_iconst dX10_foldsNow_0 (k4 rfl) (e_istore_n dX10_foldsNow_1 rfl (i := 1) rfl (L' := [xR a, xI 0, xU]) rfl (e_iconst dX10_foldsNow_2 (k4 rfl) (e_istore_n dX10_foldsNow_3 rfl (i := 2) rfl (L' := [xR a, xI 0, xI 0]) rfl k)))) ?_
  refine lc_X10_foldsNow_4 h_a R (fun z5 z6 => ?_) 6000 0 0
  exact ev_ret (e_iload_n dX10_foldsNow_34 rfl (i := 1) (x := z5) rfl (e_iret dX10_foldsNow_35))
def f_X10_count (a : Nat) (i0 : Int) (R : xN) : Option (Int × xN) :=
  if i0 = 0 then
  some ((R (a + 1) 0), R)
  else
  if i0 = 1 then
  some ((R (a + 1) 1), R)
  else
  if i0 = 2 then
  some ((R (a + 1) 2), R)
  else
  if i0 = 3 then
  some ((b4shl 1 (R (a + 1) 2)), R)
  else
  if i0 = 4 then
  (f_X10_foldsNow a R).bind (fun v6 =>
  some (v6, R))
  else
  if i0 = 5 then
  (f_X10_isBooklet a R).bind (fun v8 =>
  if v8.1 = true then
  some (1, v8.2)
  else
  some (0, v8.2))
  else
  if i0 = 6 then
  some ((R (a + 1) 8), R)
  else
  if i0 = 7 then
  (f_X10_ones (R (a + 1) 9) R).bind (fun v12 =>
  some (v12, R))
  else
  if i0 = 8 then
  some ((R (a + 1) 12), R)
  else
  if i0 = 9 then
  some ((R (a + 1) 37), R)
  else
  if i0 = 10 then
  some ((w4 ((R (a + 1) 154) + (R (a + 1) 155))), R)
  else
  if i0 = 11 then
  some ((R a 3), R)
  else
  if i0 = 12 then
  some ((R a 4), R)
  else
  if i0 = 13 then
  some ((R (a + 1) 11), R)
  else
  if i0 = 14 then
  some ((R (a + 1) 10), R)
  else
  if i0 = 15 then
  some ((R (a + 1) 7), R)
  else
  some ((-1), R)
set_option maxRecDepth 20000 in
set_option maxHeartbeats 4000000 in
theorem c_X10_count {l : Launch} {g : xG} {d : Nat} {A : xA} {R : xN} {a : Nat} (h_a : sh 10 A a) (i0 : Int) : Ev l g (d + 4) mX10_count 0 [xR a, xI i0] [] A R (fun v : Int × xN => some (xI v.1)) (fun v => v.2) (f_X10_count a i0 R) := by
  rw [f_X10_count]
  refine ev_st (pc' := 1) (L' := [xR a, xI i0]) (st' := [xI i0]) (fun _ _ _ k => e_iload_n dX10_count_0 rfl (i := 1) (x := i0) rfl k) ?_
  refine ev_ite (P := i0 = 0) (fun h1 => ?_) (fun h1 => ?_)
  · refine ev_st (pc' := 80) (L' := [xR a, xI i0]) (st' := []) (fun _ _ _ k => e_tin dX10_count_1 (tgt := 80) (off := 79) (by omega) (by omega) (by rw [h1]; rfl) rfl k) ?_
    exact ev_ret (e_aload_n dX10_count_80 rfl (i := 0) (x := a) rfl (e_getr dX10_count_81 flX10_7 (kd10_0 h_a) rfl (rf10_0_0 h_a) (e_iconst dX10_count_84 (k4 rfl) (e_iald dX10_count_85 (kd10_1 h_a) (by decide) (by decide) (e_iret dX10_count_86)))))
  refine ev_ite (P := i0 = 1) (fun h2 => ?_) (fun h2 => ?_)
  · refine ev_st (pc' := 87) (L' := [xR a, xI i0]) (st' := []) (fun _ _ _ k => e_tin dX10_count_1 (tgt := 87) (off := 86) (by omega) (by omega) (by rw [h2]; rfl) rfl k) ?_
    exact ev_ret (e_aload_n dX10_count_87 rfl (i := 0) (x := a) rfl (e_getr dX10_count_88 flX10_7 (kd10_0 h_a) rfl (rf10_0_0 h_a) (e_iconst dX10_count_91 (k4 rfl) (e_iald dX10_count_92 (kd10_1 h_a) (by decide) (by decide) (e_iret dX10_count_93)))))
  refine ev_ite (P := i0 = 2) (fun h3 => ?_) (fun h3 => ?_)
  · refine ev_st (pc' := 94) (L' := [xR a, xI i0]) (st' := []) (fun _ _ _ k => e_tin dX10_count_1 (tgt := 94) (off := 93) (by omega) (by omega) (by rw [h3]; rfl) rfl k) ?_
    exact ev_ret (e_aload_n dX10_count_94 rfl (i := 0) (x := a) rfl (e_getr dX10_count_95 flX10_7 (kd10_0 h_a) rfl (rf10_0_0 h_a) (e_iconst dX10_count_98 (k4 rfl) (e_iald dX10_count_99 (kd10_1 h_a) (by decide) (by decide) (e_iret dX10_count_100)))))
  refine ev_ite (P := i0 = 3) (fun h4 => ?_) (fun h4 => ?_)
  · refine ev_st (pc' := 101) (L' := [xR a, xI i0]) (st' := []) (fun _ _ _ k => e_tin dX10_count_1 (tgt := 101) (off := 100) (by omega) (by omega) (by rw [h4]; rfl) rfl k) ?_
    exact ev_ret (e_iconst dX10_count_101 (k4 rfl) (e_aload_n dX10_count_102 rfl (i := 0) (x := a) rfl (e_getr dX10_count_103 flX10_7 (kd10_0 h_a) rfl (rf10_0_0 h_a) (e_iconst dX10_count_106 (k4 rfl) (e_iald dX10_count_107 (kd10_1 h_a) (by decide) (by decide) (e_ishl dX10_count_108 (e_iret dX10_count_109)))))))
  refine ev_ite (P := i0 = 4) (fun h5 => ?_) (fun h5 => ?_)
  · refine ev_st (pc' := 110) (L' := [xR a, xI i0]) (st' := []) (fun _ _ _ k => e_tin dX10_count_1 (tgt := 110) (off := 109) (by omega) (by omega) (by rw [h5]; rfl) rfl k) ?_
    refine ev_st (pc' := 111) (L' := [xR a, xI i0]) (st' := [xR a]) (fun _ _ _ k => e_aload_n dX10_count_110 rfl (i := 0) (x := a) rfl k) ?_
    refine ev_callV (As := []) (st := []) (fun v6 => [xI v6]) dX10_count_111 mlX10_315 (kd10_0 h_a) rfl rfl rfl rfl rfl rfl (c_X10_foldsNow (d := d + 3) h_a) (fun _ => trivial) (fun _ => rfl) (fun v6 => ?_)
    exact ev_ret (e_iret dX10_count_114)
  refine ev_ite (P := i0 = 5) (fun h7 => ?_) (fun h7 => ?_)
  · refine ev_st (pc' := 115) (L' := [xR a, xI i0]) (st' := []) (fun _ _ _ k => e_tin dX10_count_1 (tgt := 115) (off := 114) (by omega) (by omega) (by rw [h7]; rfl) rfl k) ?_
    refine ev_st (pc' := 116) (L' := [xR a, xI i0]) (st' := [xR a]) (fun _ _ _ k => e_aload_n dX10_count_115 rfl (i := 0) (x := a) rfl k) ?_
    refine ev_callV (As := []) (st := []) (fun v8 => [xI (xz v8.1)]) dX10_count_116 mlX10_162 (kd10_0 h_a) rfl rfl rfl rfl rfl rfl (c_X10_isBooklet (d := d) h_a) (fun _ => xz01 _) (fun _ => rfl) (fun v8 => ?_)
    refine ev_br2 (P := v8.1 = true) (pct := 122) (pcf := 126) (st' := []) (fun _ _ _ kt kf => e_ifeqz dX10_count_119 (tgt := 126) rfl kt kf) (fun h9 => ?_) (fun h9 => ?_)
    · exact ev_ret (e_iconst dX10_count_122 (k4 rfl) (e_goto dX10_count_123 (tgt := 127) rfl (e_iret dX10_count_127)))
    · exact ev_ret (e_iconst dX10_count_126 (k4 rfl) (e_iret dX10_count_127))
  refine ev_ite (P := i0 = 6) (fun h10 => ?_) (fun h10 => ?_)
  · refine ev_st (pc' := 128) (L' := [xR a, xI i0]) (st' := []) (fun _ _ _ k => e_tin dX10_count_1 (tgt := 128) (off := 127) (by omega) (by omega) (by rw [h10]; rfl) rfl k) ?_
    exact ev_ret (e_aload_n dX10_count_128 rfl (i := 0) (x := a) rfl (e_getr dX10_count_129 flX10_7 (kd10_0 h_a) rfl (rf10_0_0 h_a) (e_bipush dX10_count_132 rfl (k4 rfl) (e_iald dX10_count_134 (kd10_1 h_a) (by decide) (by decide) (e_iret dX10_count_135)))))
  refine ev_ite (P := i0 = 7) (fun h11 => ?_) (fun h11 => ?_)
  · refine ev_st (pc' := 136) (L' := [xR a, xI i0]) (st' := []) (fun _ _ _ k => e_tin dX10_count_1 (tgt := 136) (off := 135) (by omega) (by omega) (by rw [h11]; rfl) rfl k) ?_
    refine ev_st (pc' := 143) (L' := [xR a, xI i0]) (st' := [xI (R (a + 1) 9)]) (fun _ _ _ k => e_aload_n dX10_count_136 rfl (i := 0) (x := a) rfl (e_getr dX10_count_137 flX10_7 (kd10_0 h_a) rfl (rf10_0_0 h_a) (e_bipush dX10_count_140 rfl (k4 rfl) (e_iald dX10_count_142 (kd10_1 h_a) (by decide) (by decide) k)))) ?_
    refine ev_callS (As := [xI (R (a + 1) 9)]) (st := []) (fun v12 => [xI v12]) dX10_count_143 mlX10_170 rfl rfl rfl rfl rfl rfl (c_X10_ones (d := d + 3) (R (a + 1) 9)) (fun _ => trivial) (fun _ => rfl) (fun v12 => ?_)
    exact ev_ret (e_iret dX10_count_146)
  refine ev_ite (P := i0 = 8) (fun h13 => ?_) (fun h13 => ?_)
  · refine ev_st (pc' := 147) (L' := [xR a, xI i0]) (st' := []) (fun _ _ _ k => e_tin dX10_count_1 (tgt := 147) (off := 146) (by omega) (by omega) (by rw [h13]; rfl) rfl k) ?_
    exact ev_ret (e_aload_n dX10_count_147 rfl (i := 0) (x := a) rfl (e_getr dX10_count_148 flX10_7 (kd10_0 h_a) rfl (rf10_0_0 h_a) (e_bipush dX10_count_151 rfl (k4 rfl) (e_iald dX10_count_153 (kd10_1 h_a) (by decide) (by decide) (e_iret dX10_count_154)))))
  refine ev_ite (P := i0 = 9) (fun h14 => ?_) (fun h14 => ?_)
  · refine ev_st (pc' := 155) (L' := [xR a, xI i0]) (st' := []) (fun _ _ _ k => e_tin dX10_count_1 (tgt := 155) (off := 154) (by omega) (by omega) (by rw [h14]; rfl) rfl k) ?_
    exact ev_ret (e_aload_n dX10_count_155 rfl (i := 0) (x := a) rfl (e_getr dX10_count_156 flX10_7 (kd10_0 h_a) rfl (rf10_0_0 h_a) (e_bipush dX10_count_159 rfl (k4 rfl) (e_iald dX10_count_161 (kd10_1 h_a) (by decide) (by decide) (e_iret dX10_count_162)))))
  refine ev_ite (P := i0 = 10) (fun h15 => ?_) (fun h15 => ?_)
  · refine ev_st (pc' := 163) (L' := [xR a, xI i0]) (st' := []) (fun _ _ _ k => e_tin dX10_count_1 (tgt := 163) (off := 162) (by omega) (by omega) (by rw [h15]; rfl) rfl k) ?_
    exact ev_ret (e_aload_n dX10_count_163 rfl (i := 0) (x := a) rfl (e_getr dX10_count_164 flX10_7 (kd10_0 h_a) rfl (rf10_0_0 h_a) (e_sipush dX10_count_167 rfl (k4 rfl) (e_iald dX10_count_170 (kd10_1 h_a) (by decide) (by decide) (e_aload_n dX10_count_171 rfl (i := 0) (x := a) rfl (e_getr dX10_count_172 flX10_7 (kd10_0 h_a) rfl (rf10_0_0 h_a) (e_sipush dX10_count_175 rfl (k4 rfl) (e_iald dX10_count_178 (kd10_1 h_a) (by decide) (by decide) (e_iadd dX10_count_179 (e_iret dX10_count_180))))))))))
  refine ev_ite (P := i0 = 11) (fun h16 => ?_) (fun h16 => ?_)
  · refine ev_st (pc' := 181) (L' := [xR a, xI i0]) (st' := []) (fun _ _ _ k => e_tin dX10_count_1 (tgt := 181) (off := 180) (by omega) (by omega) (by rw [h16]; rfl) rfl k) ?_
    exact ev_ret (e_aload_n dX10_count_181 rfl (i := 0) (x := a) rfl (e_geti dX10_count_182 flX10_61 (kd10_0 h_a) (Or.inl rfl) (e_iret dX10_count_185)))
  refine ev_ite (P := i0 = 12) (fun h17 => ?_) (fun h17 => ?_)
  · refine ev_st (pc' := 186) (L' := [xR a, xI i0]) (st' := []) (fun _ _ _ k => e_tin dX10_count_1 (tgt := 186) (off := 185) (by omega) (by omega) (by rw [h17]; rfl) rfl k) ?_
    exact ev_ret (e_aload_n dX10_count_186 rfl (i := 0) (x := a) rfl (e_geti dX10_count_187 flX10_181 (kd10_0 h_a) (Or.inl rfl) (e_iret dX10_count_190)))
  refine ev_ite (P := i0 = 13) (fun h18 => ?_) (fun h18 => ?_)
  · refine ev_st (pc' := 191) (L' := [xR a, xI i0]) (st' := []) (fun _ _ _ k => e_tin dX10_count_1 (tgt := 191) (off := 190) (by omega) (by omega) (by rw [h18]; rfl) rfl k) ?_
    exact ev_ret (e_aload_n dX10_count_191 rfl (i := 0) (x := a) rfl (e_getr dX10_count_192 flX10_7 (kd10_0 h_a) rfl (rf10_0_0 h_a) (e_bipush dX10_count_195 rfl (k4 rfl) (e_iald dX10_count_197 (kd10_1 h_a) (by decide) (by decide) (e_iret dX10_count_198)))))
  refine ev_ite (P := i0 = 14) (fun h19 => ?_) (fun h19 => ?_)
  · refine ev_st (pc' := 199) (L' := [xR a, xI i0]) (st' := []) (fun _ _ _ k => e_tin dX10_count_1 (tgt := 199) (off := 198) (by omega) (by omega) (by rw [h19]; rfl) rfl k) ?_
    exact ev_ret (e_aload_n dX10_count_199 rfl (i := 0) (x := a) rfl (e_getr dX10_count_200 flX10_7 (kd10_0 h_a) rfl (rf10_0_0 h_a) (e_bipush dX10_count_203 rfl (k4 rfl) (e_iald dX10_count_205 (kd10_1 h_a) (by decide) (by decide) (e_iret dX10_count_206)))))
  refine ev_ite (P := i0 = 15) (fun h20 => ?_) (fun h20 => ?_)
  · refine ev_st (pc' := 207) (L' := [xR a, xI i0]) (st' := []) (fun _ _ _ k => e_tin dX10_count_1 (tgt := 207) (off := 206) (by omega) (by omega) (by rw [h20]; rfl) rfl k) ?_
    exact ev_ret (e_aload_n dX10_count_207 rfl (i := 0) (x := a) rfl (e_getr dX10_count_208 flX10_7 (kd10_0 h_a) rfl (rf10_0_0 h_a) (e_bipush dX10_count_211 rfl (k4 rfl) (e_iald dX10_count_213 (kd10_1 h_a) (by decide) (by decide) (e_iret dX10_count_214)))))
  refine ev_st (pc' := 215) (L' := [xR a, xI i0]) (st' := []) (fun _ _ _ k => e_tout dX10_count_1 (tgt := 215) (by omega) rfl k) ?_
  exact ev_ret (e_iconst dX10_count_215 (k4 rfl) (e_iret dX10_count_216))
def f_X10_side (a : Nat) (i0 : Int) (i1 : Int) (i2 : Int) (i3 : Int) (R : xN) : Option (Int) :=
  (f_X10_isCell a i0 i1 R).bind (fun v1 =>
  if v1 = true then
  (f_X10_in i2 0 1 R).bind (fun v3 =>
  if v3 = true then
  (f_X10_in i3 0 1 R).bind (fun v5 =>
  if v5 = true then
  xlet (w4 ((w4 (2 * (w4 ((w4 ((R (a + 1) 1) * i0)) + i1)))) + i2)) (fun x7 =>
  if i3 = 1 then
  if 0 ≤ (w4 (122 + x7)) ∧ (w4 (122 + x7)) < 464 then
  some (R (a + 1) ((w4 (122 + x7))).toNat)
  else none
  else
  if 0 ≤ (w4 (90 + x7)) ∧ (w4 (90 + x7)) < 464 then
  if 0 ≤ (R (a + 1) ((w4 (90 + x7))).toNat) then
  if 0 ≤ (w4 (90 + x7)) ∧ (w4 (90 + x7)) < 464 then
  some (R (a + 1) ((w4 (90 + x7))).toNat)
  else none
  else
  some (-9)
  else none)
  else
  some (-1))
  else
  some (-1))
  else
  some (-1))
set_option maxRecDepth 20000 in
set_option maxHeartbeats 4000000 in
theorem c_X10_side {l : Launch} {g : xG} {d : Nat} {A : xA} {R : xN} {a : Nat} (h_a : sh 10 A a) (i0 : Int) (i1 : Int) (i2 : Int) (i3 : Int) : Ev l g (d + 2) mX10_side 0 [xR a, xI i0, xI i1, xI i2, xI i3, xU] [] A R (fun v : Int => some (xI v)) (fun _ => R) (f_X10_side a i0 i1 i2 i3 R) := by
  rw [f_X10_side]
  refine ev_st (pc' := 3) (L' := [xR a, xI i0, xI i1, xI i2, xI i3, xU]) (st' := [xI i1, xI i0, xR a]) (fun _ _ _ k => e_aload_n dX10_side_0 rfl (i := 0) (x := a) rfl (e_iload_n dX10_side_1 rfl (i := 1) (x := i0) rfl (e_iload_n dX10_side_2 rfl (i := 2) (x := i1) rfl k))) ?_
  refine ev_callV (As := [xI i0, xI i1]) (st := []) (fun v1 => [xI (xz v1)]) dX10_side_3 mlX10_146 (kd10_0 h_a) rfl rfl rfl rfl rfl rfl (c_X10_isCell (d := d) h_a i0 i1) (fun _ => xz01 _) (fun _ => rfl) (fun v1 => ?_)
  refine ev_br2 (P := v1 = true) (pct := 9) (pcf := 30) (st' := []) (fun _ _ _ kt kf => e_ifeqz dX10_side_6 (tgt := 30) rfl kt kf) (fun h2 => ?_) (fun h2 => ?_)
  · refine ev_st (pc' := 13) (L' := [xR a, xI i0, xI i1, xI i2, xI i3, xU]) (st' := [xL 1, xL 0, xL i2]) (fun _ _ _ k => e_iload_n dX10_side_9 rfl (i := 3) (x := i2) rfl (e_i2l dX10_side_10 (e_lconst dX10_side_11 (i := 0) rfl (k8 rfl) (e_lconst dX10_side_12 (i := 1) rfl (k8 rfl) k)))) ?_
    refine ev_callS (As := [xL i2, xL 0, xL 1]) (st := []) (fun v3 => [xI (xz v3)]) dX10_side_13 mlX10_101 rfl rfl rfl rfl rfl rfl (c_X10_in (d := d + 1) i2 0 1) (fun _ => xz01 _) (fun _ => rfl) (fun v3 => ?_)
    refine ev_br2 (P := v3 = true) (pct := 19) (pcf := 30) (st' := []) (fun _ _ _ kt kf => e_ifeqz dX10_side_16 (tgt := 30) rfl kt kf) (fun h4 => ?_) (fun h4 => ?_)
    · refine ev_st (pc' := 24) (L' := [xR a, xI i0, xI i1, xI i2, xI i3, xU]) (st' := [xL 1, xL 0, xL i3]) (fun _ _ _ k => e_iload dX10_side_19 (i := 4) (x := i3) rfl (e_i2l dX10_side_21 (e_lconst dX10_side_22 (i := 0) rfl (k8 rfl) (e_lconst dX10_side_23 (i := 1) rfl (k8 rfl) k)))) ?_
      refine ev_callS (As := [xL i3, xL 0, xL 1]) (st := []) (fun v5 => [xI (xz v5)]) dX10_side_24 mlX10_101 rfl rfl rfl rfl rfl rfl (c_X10_in (d := d + 1) i3 0 1) (fun _ => xz01 _) (fun _ => rfl) (fun v5 => ?_)
      refine ev_br2 (P := v5 = true) (pct := 32) (pcf := 30) (st' := []) (fun _ _ _ kt kf => e_ifnez dX10_side_27 (tgt := 32) rfl kt kf) (fun h6 => ?_) (fun h6 => ?_)
      · refine ev_st (pc' := 46) (L' := [xR a, xI i0, xI i1, xI i2, xI i3, xU]) (st' := [xI (w4 ((w4 (2 * (w4 ((w4 ((R (a + 1) 1) * i0)) + i1)))) + i2))]) (fun _ _ _ k => e_iconst dX10_side_32 (k4 rfl) (e_aload_n dX10_side_33 rfl (i := 0) (x := a) rfl (e_getr dX10_side_34 flX10_7 (kd10_0 h_a) rfl (rf10_0_0 h_a) (e_iconst dX10_side_37 (k4 rfl) (e_iald dX10_side_38 (kd10_1 h_a) (by decide) (by decide) (e_iload_n dX10_side_39 rfl (i := 1) (x := i0) rfl (e_imul dX10_side_40 (e_iload_n dX10_side_41 rfl (i := 2) (x := i1) rfl (e_iadd dX10_side_42 (e_imul dX10_side_43 (e_iload_n dX10_side_44 rfl (i := 3) (x := i2) rfl (e_iadd dX10_side_45 k)))))))))))) ?_
        refine ev_leti (fun x7 ex7 => ?_)
        refine ev_st (pc' := 48) (L' := [xR a, xI i0, xI i1, xI i2, xI i3, xI x7]) (st' := []) (fun _ _ _ k => e_istore dX10_side_46 (i := 5) rfl (L' := [xR a, xI i0, xI i1, xI i2, xI i3, xI x7]) rfl k) ?_
        refine ev_st (pc' := 51) (L' := [xR a, xI i0, xI i1, xI i2, xI i3, xI x7]) (st' := [xI 1, xI i3]) (fun _ _ _ k => e_iload dX10_side_48 (i := 4) (x := i3) rfl (e_iconst dX10_side_50 (k4 rfl) k)) ?_
        refine ev_br2 (P := i3 = 1) (pct := 54) (pcf := 67) (st' := []) (fun _ _ _ kt kf => e_cne dX10_side_51 (tgt := 67) rfl kt kf) (fun h8 => ?_) (fun h8 => ?_)
        · refine ev_st (pc' := 63) (L' := [xR a, xI i0, xI i1, xI i2, xI i3, xI x7]) (st' := [xI (w4 (122 + x7)), xR (a + 1)]) (fun _ _ _ k => e_aload_n dX10_side_54 rfl (i := 0) (x := a) rfl (e_getr dX10_side_55 flX10_7 (kd10_0 h_a) rfl (rf10_0_0 h_a) (e_bipush dX10_side_58 rfl (k4 rfl) (e_iload dX10_side_60 (i := 5) (x := x7) rfl (e_iadd dX10_side_62 k))))) ?_
          refine ev_chk (fun h9 => ?_)
          refine ev_st (pc' := 64) (L' := [xR a, xI i0, xI i1, xI i2, xI i3, xI x7]) (st' := [xI (R (a + 1) ((w4 (122 + x7))).toNat)]) (fun _ _ _ k => e_iald dX10_side_63 (kd10_1 h_a) h9.1 h9.2 k) ?_
          exact ev_ret (e_goto dX10_side_64 (tgt := 95) rfl (e_iret dX10_side_95))
        · refine ev_st (pc' := 76) (L' := [xR a, xI i0, xI i1, xI i2, xI i3, xI x7]) (st' := [xI (w4 (90 + x7)), xR (a + 1)]) (fun _ _ _ k => e_aload_n dX10_side_67 rfl (i := 0) (x := a) rfl (e_getr dX10_side_68 flX10_7 (kd10_0 h_a) rfl (rf10_0_0 h_a) (e_bipush dX10_side_71 rfl (k4 rfl) (e_iload dX10_side_73 (i := 5) (x := x7) rfl (e_iadd dX10_side_75 k))))) ?_
          refine ev_chk (fun h10 => ?_)
          refine ev_st (pc' := 77) (L' := [xR a, xI i0, xI i1, xI i2, xI i3, xI x7]) (st' := [xI (R (a + 1) ((w4 (90 + x7))).toNat)]) (fun _ _ _ k => e_iald dX10_side_76 (kd10_1 h_a) h10.1 h10.2 k) ?_
          refine ev_br2 (P := 0 ≤ (R (a + 1) ((w4 (90 + x7))).toNat)) (pct := 85) (pcf := 80) (st' := []) (fun _ _ _ kt kf => e_ifge dX10_side_77 (tgt := 85) rfl kt kf) (fun h11 => ?_) (fun h11 => ?_)
          · refine ev_st (pc' := 94) (L' := [xR a, xI i0, xI i1, xI i2, xI i3, xI x7]) (st' := [xI (w4 (90 + x7)), xR (a + 1)]) (fun _ _ _ k => e_aload_n dX10_side_85 rfl (i := 0) (x := a) rfl (e_getr dX10_side_86 flX10_7 (kd10_0 h_a) rfl (rf10_0_0 h_a) (e_bipush dX10_side_89 rfl (k4 rfl) (e_iload dX10_side_91 (i := 5) (x := x7) rfl (e_iadd dX10_side_93 k))))) ?_
            refine ev_chk (fun h12 => ?_)
            refine ev_st (pc' := 95) (L' := [xR a, xI i0, xI i1, xI i2, xI i3, xI x7]) (st' := [xI (R (a + 1) ((w4 (90 + x7))).toNat)]) (fun _ _ _ k => e_iald dX10_side_94 (kd10_1 h_a) h12.1 h12.2 k) ?_
            exact ev_ret (e_iret dX10_side_95)
          · exact ev_ret (e_bipush dX10_side_80 rfl (k4 rfl) (e_goto dX10_side_82 (tgt := 95) rfl (e_iret dX10_side_95)))
      · exact ev_ret (e_iconst dX10_side_30 (k4 rfl) (e_iret dX10_side_31))
    · exact ev_ret (e_iconst dX10_side_30 (k4 rfl) (e_iret dX10_side_31))
  · exact ev_ret (e_iconst dX10_side_30 (k4 rfl) (e_iret dX10_side_31))
