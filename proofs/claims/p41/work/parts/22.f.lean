def f_X3_edgesBetween (a : Nat) (i0 : Int) (i1 : Int) (R : xN) : Option (Int) :=
  (f_X3_at a i0 R).bind (fun v1 =>
  (f_X3_at a i1 R).bind (fun v2 =>
  (f_X3_rowOf v2 R).bind (fun v3 =>
  (f_X3_rowOf v1 R).bind (fun v4 =>
  xlet (w4 (v3 - v4)) (fun x5 =>
  (f_X3_columnOf v2 R).bind (fun v6 =>
  (f_X3_columnOf v1 R).bind (fun v7 =>
  xlet (w4 (v6 - v7)) (fun x8 =>
  if x5 = 0 then
  if x8 = 1 then
  (f_X3_edgeToRight v1 R).bind (fun v11 =>
  some (b4shl 1 v11))
  else
  if x5 = 0 then
  if x8 = (-1) then
  (f_X3_edgeToRight v2 R).bind (fun v14 =>
  some (b4shl 1 v14))
  else
  if x8 = 0 then
  if x5 = 1 then
  (f_X3_edgeBelow v1 R).bind (fun v17 =>
  some (b4shl 1 v17))
  else
  if x8 = 0 then
  if x5 = (-1) then
  (f_X3_edgeBelow v2 R).bind (fun v20 =>
  some (b4shl 1 v20))
  else
  some 0
  else
  some 0
  else
  if x8 = 0 then
  if x5 = (-1) then
  (f_X3_edgeBelow v2 R).bind (fun v23 =>
  some (b4shl 1 v23))
  else
  some 0
  else
  some 0
  else
  if x8 = 0 then
  if x5 = 1 then
  (f_X3_edgeBelow v1 R).bind (fun v26 =>
  some (b4shl 1 v26))
  else
  if x8 = 0 then
  if x5 = (-1) then
  (f_X3_edgeBelow v2 R).bind (fun v29 =>
  some (b4shl 1 v29))
  else
  some 0
  else
  some 0
  else
  if x8 = 0 then
  if x5 = (-1) then
  (f_X3_edgeBelow v2 R).bind (fun v32 =>
  some (b4shl 1 v32))
  else
  some 0
  else
  some 0
  else
  if x5 = 0 then
  if x8 = (-1) then
  (f_X3_edgeToRight v2 R).bind (fun v35 =>
  some (b4shl 1 v35))
  else
  if x8 = 0 then
  if x5 = 1 then
  (f_X3_edgeBelow v1 R).bind (fun v38 =>
  some (b4shl 1 v38))
  else
  if x8 = 0 then
  if x5 = (-1) then
  (f_X3_edgeBelow v2 R).bind (fun v41 =>
  some (b4shl 1 v41))
  else
  some 0
  else
  some 0
  else
  if x8 = 0 then
  if x5 = (-1) then
  (f_X3_edgeBelow v2 R).bind (fun v44 =>
  some (b4shl 1 v44))
  else
  some 0
  else
  some 0
  else
  if x8 = 0 then
  if x5 = 1 then
  (f_X3_edgeBelow v1 R).bind (fun v47 =>
  some (b4shl 1 v47))
  else
  if x8 = 0 then
  if x5 = (-1) then
  (f_X3_edgeBelow v2 R).bind (fun v50 =>
  some (b4shl 1 v50))
  else
  some 0
  else
  some 0
  else
  if x8 = 0 then
  if x5 = (-1) then
  (f_X3_edgeBelow v2 R).bind (fun v53 =>
  some (b4shl 1 v53))
  else
  some 0
  else
  some 0))))))))
set_option maxRecDepth 20000 in
set_option maxHeartbeats 4000000 in
theorem c_X3_edgesBetween {l : Launch} {g : xG} {d : Nat} {A : xA} {R : xN} {a : Nat} (h_a : sh 3 A a) (i0 : Int) (i1 : Int) : Ev l g (d + 1) mX3_edgesBetween 0 [xR a, xI i0, xI i1, xU, xU, xU, xU] [] A R (fun v : Int => some (xI v)) (fun _ => R) (f_X3_edgesBetween a i0 i1 R) := by
  rw [f_X3_edgesBetween]
  refine ev_st (pc' := 2) (L' := [xR a, xI i0, xI i1, xU, xU, xU, xU]) (st' := [xI i0, xR a]) (fun _ _ _ k => e_aload_n dX3_edgesBetween_0 rfl (i := 0) (x := a) rfl (e_iload_n dX3_edgesBetween_1 rfl (i := 1) (x := i0) rfl k)) ?_
  refine ev_callV (As := [xI i0]) (st := []) (fun v1 => [xI v1]) dX3_edgesBetween_2 mlX3_55 (kd3_0 h_a) rfl rfl rfl rfl rfl rfl (c_X3_at (d := d) h_a i0) (fun _ => trivial) (fun _ => rfl) (fun v1 => ?_)
  refine ev_st (pc' := 8) (L' := [xR a, xI i0, xI i1, xI v1, xU, xU, xU]) (st' := [xI i1, xR a]) (fun _ _ _ k => e_istore_n dX3_edgesBetween_5 rfl (i := 3) rfl (L' := [xR a, xI i0, xI i1, xI v1, xU, xU, xU]) rfl (e_aload_n dX3_edgesBetween_6 rfl (i := 0) (x := a) rfl (e_iload_n dX3_edgesBetween_7 rfl (i := 2) (x := i1) rfl k))) ?_
  refine ev_callV (As := [xI i1]) (st := []) (fun v2 => [xI v2]) dX3_edgesBetween_8 mlX3_55 (kd3_0 h_a) rfl rfl rfl rfl rfl rfl (c_X3_at (d := d) h_a i1) (fun _ => trivial) (fun _ => rfl) (fun v2 => ?_)
  refine ev_st (pc' := 15) (L' := [xR a, xI i0, xI i1, xI v1, xI v2, xU, xU]) (st' := [xI v2]) (fun _ _ _ k => e_istore dX3_edgesBetween_11 (i := 4) rfl (L' := [xR a, xI i0, xI i1, xI v1, xI v2, xU, xU]) rfl (e_iload dX3_edgesBetween_13 (i := 4) (x := v2) rfl k)) ?_
  refine ev_callS (As := [xI v2]) (st := []) (fun v3 => [xI v3]) dX3_edgesBetween_15 mlX3_79 rfl rfl rfl rfl rfl rfl (c_X3_rowOf (d := d) v2) (fun _ => trivial) (fun _ => rfl) (fun v3 => ?_)
  refine ev_st (pc' := 19) (L' := [xR a, xI i0, xI i1, xI v1, xI v2, xU, xU]) (st' := [xI v1, xI v3]) (fun _ _ _ k => e_iload_n dX3_edgesBetween_18 rfl (i := 3) (x := v1) rfl k) ?_
  refine ev_callS (As := [xI v1]) (st := [xI v3]) (fun v4 => [xI v4, xI v3]) dX3_edgesBetween_19 mlX3_79 rfl rfl rfl rfl rfl rfl (c_X3_rowOf (d := d) v1) (fun _ => trivial) (fun _ => rfl) (fun v4 => ?_)
  refine ev_st (pc' := 23) (L' := [xR a, xI i0, xI i1, xI v1, xI v2, xU, xU]) (st' := [xI (w4 (v3 - v4))]) (fun _ _ _ k => e_isub dX3_edgesBetween_22 k) ?_
  refine ev_leti (fun x5 ex5 => ?_)
  refine ev_st (pc' := 25) (L' := [xR a, xI i0, xI i1, xI v1, xI v2, xI x5, xU]) (st' := []) (fun _ _ _ k => e_istore dX3_edgesBetween_23 (i := 5) rfl (L' := [xR a, xI i0, xI i1, xI v1, xI v2, xI x5, xU]) rfl k) ?_
  refine ev_st (pc' := 27) (L' := [xR a, xI i0, xI i1, xI v1, xI v2, xI x5, xU]) (st' := [xI v2]) (fun _ _ _ k => e_iload dX3_edgesBetween_25 (i := 4) (x := v2) rfl k) ?_
  refine ev_callS (As := [xI v2]) (st := []) (fun v6 => [xI v6]) dX3_edgesBetween_27 mlX3_82 rfl rfl rfl rfl rfl rfl (c_X3_columnOf (d := d) v2) (fun _ => trivial) (fun _ => rfl) (fun v6 => ?_)
  refine ev_st (pc' := 31) (L' := [xR a, xI i0, xI i1, xI v1, xI v2, xI x5, xU]) (st' := [xI v1, xI v6]) (fun _ _ _ k => e_iload_n dX3_edgesBetween_30 rfl (i := 3) (x := v1) rfl k) ?_
  refine ev_callS (As := [xI v1]) (st := [xI v6]) (fun v7 => [xI v7, xI v6]) dX3_edgesBetween_31 mlX3_82 rfl rfl rfl rfl rfl rfl (c_X3_columnOf (d := d) v1) (fun _ => trivial) (fun _ => rfl) (fun v7 => ?_)
  refine ev_st (pc' := 35) (L' := [xR a, xI i0, xI i1, xI v1, xI v2, xI x5, xU]) (st' := [xI (w4 (v6 - v7))]) (fun _ _ _ k => e_isub dX3_edgesBetween_34 k) ?_
  refine ev_leti (fun x8 ex8 => ?_)
  refine ev_st (pc' := 37) (L' := [xR a, xI i0, xI i1, xI v1, xI v2, xI x5, xI x8]) (st' := []) (fun _ _ _ k => e_istore dX3_edgesBetween_35 (i := 6) rfl (L' := [xR a, xI i0, xI i1, xI v1, xI v2, xI x5, xI x8]) rfl k) ?_
  refine ev_st (pc' := 39) (L' := [xR a, xI i0, xI i1, xI v1, xI v2, xI x5, xI x8]) (st' := [xI x5]) (fun _ _ _ k => e_iload dX3_edgesBetween_37 (i := 5) (x := x5) rfl k) ?_
  refine ev_br2 (P := x5 = 0) (pct := 42) (pcf := 55) (st' := []) (fun _ _ _ kt kf => e_ifne dX3_edgesBetween_39 (tgt := 55) rfl kt kf) (fun h9 => ?_) (fun h9 => ?_)
  · refine ev_st (pc' := 45) (L' := [xR a, xI i0, xI i1, xI v1, xI v2, xI x5, xI x8]) (st' := [xI 1, xI x8]) (fun _ _ _ k => e_iload dX3_edgesBetween_42 (i := 6) (x := x8) rfl (e_iconst dX3_edgesBetween_44 (k4 rfl) k)) ?_
    refine ev_br2 (P := x8 = 1) (pct := 48) (pcf := 55) (st' := []) (fun _ _ _ kt kf => e_cne dX3_edgesBetween_45 (tgt := 55) rfl kt kf) (fun h10 => ?_) (fun h10 => ?_)
    · refine ev_st (pc' := 50) (L' := [xR a, xI i0, xI i1, xI v1, xI v2, xI x5, xI x8]) (st' := [xI v1, xI 1]) (fun _ _ _ k => e_iconst dX3_edgesBetween_48 (k4 rfl) (e_iload_n dX3_edgesBetween_49 rfl (i := 3) (x := v1) rfl k)) ?_
      refine ev_callS (As := [xI v1]) (st := [xI 1]) (fun v11 => [xI v11, xI 1]) dX3_edgesBetween_50 mlX3_94 rfl rfl rfl rfl rfl rfl (c_X3_edgeToRight (d := d) v1) (fun _ => trivial) (fun _ => rfl) (fun v11 => ?_)
      exact ev_ret (e_ishl dX3_edgesBetween_53 (e_iret dX3_edgesBetween_54))
    · refine ev_st (pc' := 57) (L' := [xR a, xI i0, xI i1, xI v1, xI v2, xI x5, xI x8]) (st' := [xI x5]) (fun _ _ _ k => e_iload dX3_edgesBetween_55 (i := 5) (x := x5) rfl k) ?_
      refine ev_br2 (P := x5 = 0) (pct := 60) (pcf := 74) (st' := []) (fun _ _ _ kt kf => e_ifne dX3_edgesBetween_57 (tgt := 74) rfl kt kf) (fun h12 => ?_) (fun h12 => ?_)
      · refine ev_st (pc' := 63) (L' := [xR a, xI i0, xI i1, xI v1, xI v2, xI x5, xI x8]) (st' := [xI (-1), xI x8]) (fun _ _ _ k => e_iload dX3_edgesBetween_60 (i := 6) (x := x8) rfl (e_iconst dX3_edgesBetween_62 (k4 rfl) k)) ?_
        refine ev_br2 (P := x8 = (-1)) (pct := 66) (pcf := 74) (st' := []) (fun _ _ _ kt kf => e_cne dX3_edgesBetween_63 (tgt := 74) rfl kt kf) (fun h13 => ?_) (fun h13 => ?_)
        · refine ev_st (pc' := 69) (L' := [xR a, xI i0, xI i1, xI v1, xI v2, xI x5, xI x8]) (st' := [xI v2, xI 1]) (fun _ _ _ k => e_iconst dX3_edgesBetween_66 (k4 rfl) (e_iload dX3_edgesBetween_67 (i := 4) (x := v2) rfl k)) ?_
          refine ev_callS (As := [xI v2]) (st := [xI 1]) (fun v14 => [xI v14, xI 1]) dX3_edgesBetween_69 mlX3_94 rfl rfl rfl rfl rfl rfl (c_X3_edgeToRight (d := d) v2) (fun _ => trivial) (fun _ => rfl) (fun v14 => ?_)
          exact ev_ret (e_ishl dX3_edgesBetween_72 (e_iret dX3_edgesBetween_73))
        · refine ev_st (pc' := 76) (L' := [xR a, xI i0, xI i1, xI v1, xI v2, xI x5, xI x8]) (st' := [xI x8]) (fun _ _ _ k => e_iload dX3_edgesBetween_74 (i := 6) (x := x8) rfl k) ?_
          refine ev_br2 (P := x8 = 0) (pct := 79) (pcf := 92) (st' := []) (fun _ _ _ kt kf => e_ifne dX3_edgesBetween_76 (tgt := 92) rfl kt kf) (fun h15 => ?_) (fun h15 => ?_)
          · refine ev_st (pc' := 82) (L' := [xR a, xI i0, xI i1, xI v1, xI v2, xI x5, xI x8]) (st' := [xI 1, xI x5]) (fun _ _ _ k => e_iload dX3_edgesBetween_79 (i := 5) (x := x5) rfl (e_iconst dX3_edgesBetween_81 (k4 rfl) k)) ?_
            refine ev_br2 (P := x5 = 1) (pct := 85) (pcf := 92) (st' := []) (fun _ _ _ kt kf => e_cne dX3_edgesBetween_82 (tgt := 92) rfl kt kf) (fun h16 => ?_) (fun h16 => ?_)
            · refine ev_st (pc' := 87) (L' := [xR a, xI i0, xI i1, xI v1, xI v2, xI x5, xI x8]) (st' := [xI v1, xI 1]) (fun _ _ _ k => e_iconst dX3_edgesBetween_85 (k4 rfl) (e_iload_n dX3_edgesBetween_86 rfl (i := 3) (x := v1) rfl k)) ?_
              refine ev_callS (As := [xI v1]) (st := [xI 1]) (fun v17 => [xI v17, xI 1]) dX3_edgesBetween_87 mlX3_97 rfl rfl rfl rfl rfl rfl (c_X3_edgeBelow (d := d) v1) (fun _ => trivial) (fun _ => rfl) (fun v17 => ?_)
              exact ev_ret (e_ishl dX3_edgesBetween_90 (e_iret dX3_edgesBetween_91))
            · refine ev_st (pc' := 94) (L' := [xR a, xI i0, xI i1, xI v1, xI v2, xI x5, xI x8]) (st' := [xI x8]) (fun _ _ _ k => e_iload dX3_edgesBetween_92 (i := 6) (x := x8) rfl k) ?_
              refine ev_br2 (P := x8 = 0) (pct := 97) (pcf := 111) (st' := []) (fun _ _ _ kt kf => e_ifne dX3_edgesBetween_94 (tgt := 111) rfl kt kf) (fun h18 => ?_) (fun h18 => ?_)
              · refine ev_st (pc' := 100) (L' := [xR a, xI i0, xI i1, xI v1, xI v2, xI x5, xI x8]) (st' := [xI (-1), xI x5]) (fun _ _ _ k => e_iload dX3_edgesBetween_97 (i := 5) (x := x5) rfl (e_iconst dX3_edgesBetween_99 (k4 rfl) k)) ?_
                refine ev_br2 (P := x5 = (-1)) (pct := 103) (pcf := 111) (st' := []) (fun _ _ _ kt kf => e_cne dX3_edgesBetween_100 (tgt := 111) rfl kt kf) (fun h19 => ?_) (fun h19 => ?_)
                · refine ev_st (pc' := 106) (L' := [xR a, xI i0, xI i1, xI v1, xI v2, xI x5, xI x8]) (st' := [xI v2, xI 1]) (fun _ _ _ k => e_iconst dX3_edgesBetween_103 (k4 rfl) (e_iload dX3_edgesBetween_104 (i := 4) (x := v2) rfl k)) ?_
                  refine ev_callS (As := [xI v2]) (st := [xI 1]) (fun v20 => [xI v20, xI 1]) dX3_edgesBetween_106 mlX3_97 rfl rfl rfl rfl rfl rfl (c_X3_edgeBelow (d := d) v2) (fun _ => trivial) (fun _ => rfl) (fun v20 => ?_)
                  exact ev_ret (e_ishl dX3_edgesBetween_109 (e_iret dX3_edgesBetween_110))
                · exact ev_ret (e_iconst dX3_edgesBetween_111 (k4 rfl) (e_iret dX3_edgesBetween_112))
              · exact ev_ret (e_iconst dX3_edgesBetween_111 (k4 rfl) (e_iret dX3_edgesBetween_112))
          · refine ev_st (pc' := 94) (L' := [xR a, xI i0, xI i1, xI v1, xI v2, xI x5, xI x8]) (st' := [xI x8]) (fun _ _ _ k => e_iload dX3_edgesBetween_92 (i := 6) (x := x8) rfl k) ?_
            refine ev_br2 (P := x8 = 0) (pct := 97) (pcf := 111) (st' := []) (fun _ _ _ kt kf => e_ifne dX3_edgesBetween_94 (tgt := 111) rfl kt kf) (fun h21 => ?_) (fun h21 => ?_)
            · refine ev_st (pc' := 100) (L' := [xR a, xI i0, xI i1, xI v1, xI v2, xI x5, xI x8]) (st' := [xI (-1), xI x5]) (fun _ _ _ k => e_iload dX3_edgesBetween_97 (i := 5) (x := x5) rfl (e_iconst dX3_edgesBetween_99 (k4 rfl) k)) ?_
              refine ev_br2 (P := x5 = (-1)) (pct := 103) (pcf := 111) (st' := []) (fun _ _ _ kt kf => e_cne dX3_edgesBetween_100 (tgt := 111) rfl kt kf) (fun h22 => ?_) (fun h22 => ?_)
              · refine ev_st (pc' := 106) (L' := [xR a, xI i0, xI i1, xI v1, xI v2, xI x5, xI x8]) (st' := [xI v2, xI 1]) (fun _ _ _ k => e_iconst dX3_edgesBetween_103 (k4 rfl) (e_iload dX3_edgesBetween_104 (i := 4) (x := v2) rfl k)) ?_
                refine ev_callS (As := [xI v2]) (st := [xI 1]) (fun v23 => [xI v23, xI 1]) dX3_edgesBetween_106 mlX3_97 rfl rfl rfl rfl rfl rfl (c_X3_edgeBelow (d := d) v2) (fun _ => trivial) (fun _ => rfl) (fun v23 => ?_)
                exact ev_ret (e_ishl dX3_edgesBetween_109 (e_iret dX3_edgesBetween_110))
              · exact ev_ret (e_iconst dX3_edgesBetween_111 (k4 rfl) (e_iret dX3_edgesBetween_112))
            · exact ev_ret (e_iconst dX3_edgesBetween_111 (k4 rfl) (e_iret dX3_edgesBetween_112))
      · refine ev_st (pc' := 76) (L' := [xR a, xI i0, xI i1, xI v1, xI v2, xI x5, xI x8]) (st' := [xI x8]) (fun _ _ _ k => e_iload dX3_edgesBetween_74 (i := 6) (x := x8) rfl k) ?_
        refine ev_br2 (P := x8 = 0) (pct := 79) (pcf := 92) (st' := []) (fun _ _ _ kt kf => e_ifne dX3_edgesBetween_76 (tgt := 92) rfl kt kf) (fun h24 => ?_) (fun h24 => ?_)
        · refine ev_st (pc' := 82) (L' := [xR a, xI i0, xI i1, xI v1, xI v2, xI x5, xI x8]) (st' := [xI 1, xI x5]) (fun _ _ _ k => e_iload dX3_edgesBetween_79 (i := 5) (x := x5) rfl (e_iconst dX3_edgesBetween_81 (k4 rfl) k)) ?_
          refine ev_br2 (P := x5 = 1) (pct := 85) (pcf := 92) (st' := []) (fun _ _ _ kt kf => e_cne dX3_edgesBetween_82 (tgt := 92) rfl kt kf) (fun h25 => ?_) (fun h25 => ?_)
          · refine ev_st (pc' := 87) (L' := [xR a, xI i0, xI i1, xI v1, xI v2, xI x5, xI x8]) (st' := [xI v1, xI 1]) (fun _ _ _ k => e_iconst dX3_edgesBetween_85 (k4 rfl) (e_iload_n dX3_edgesBetween_86 rfl (i := 3) (x := v1) rfl k)) ?_
            refine ev_callS (As := [xI v1]) (st := [xI 1]) (fun v26 => [xI v26, xI 1]) dX3_edgesBetween_87 mlX3_97 rfl rfl rfl rfl rfl rfl (c_X3_edgeBelow (d := d) v1) (fun _ => trivial) (fun _ => rfl) (fun v26 => ?_)
            exact ev_ret (e_ishl dX3_edgesBetween_90 (e_iret dX3_edgesBetween_91))
          · refine ev_st (pc' := 94) (L' := [xR a, xI i0, xI i1, xI v1, xI v2, xI x5, xI x8]) (st' := [xI x8]) (fun _ _ _ k => e_iload dX3_edgesBetween_92 (i := 6) (x := x8) rfl k) ?_
            refine ev_br2 (P := x8 = 0) (pct := 97) (pcf := 111) (st' := []) (fun _ _ _ kt kf => e_ifne dX3_edgesBetween_94 (tgt := 111) rfl kt kf) (fun h27 => ?_) (fun h27 => ?_)
            · refine ev_st (pc' := 100) (L' := [xR a, xI i0, xI i1, xI v1, xI v2, xI x5, xI x8]) (st' := [xI (-1), xI x5]) (fun _ _ _ k => e_iload dX3_edgesBetween_97 (i := 5) (x := x5) rfl (e_iconst dX3_edgesBetween_99 (k4 rfl) k)) ?_
              refine ev_br2 (P := x5 = (-1)) (pct := 103) (pcf := 111) (st' := []) (fun _ _ _ kt kf => e_cne dX3_edgesBetween_100 (tgt := 111) rfl kt kf) (fun h28 => ?_) (fun h28 => ?_)
              · refine ev_st (pc' := 106) (L' := [xR a, xI i0, xI i1, xI v1, xI v2, xI x5, xI x8]) (st' := [xI v2, xI 1]) (fun _ _ _ k => e_iconst dX3_edgesBetween_103 (k4 rfl) (e_iload dX3_edgesBetween_104 (i := 4) (x := v2) rfl k)) ?_
                refine ev_callS (As := [xI v2]) (st := [xI 1]) (fun v29 => [xI v29, xI 1]) dX3_edgesBetween_106 mlX3_97 rfl rfl rfl rfl rfl rfl (c_X3_edgeBelow (d := d) v2) (fun _ => trivial) (fun _ => rfl) (fun v29 => ?_)
                exact ev_ret (e_ishl dX3_edgesBetween_109 (e_iret dX3_edgesBetween_110))
              · exact ev_ret (e_iconst dX3_edgesBetween_111 (k4 rfl) (e_iret dX3_edgesBetween_112))
            · exact ev_ret (e_iconst dX3_edgesBetween_111 (k4 rfl) (e_iret dX3_edgesBetween_112))
        · refine ev_st (pc' := 94) (L' := [xR a, xI i0, xI i1, xI v1, xI v2, xI x5, xI x8]) (st' := [xI x8]) (fun _ _ _ k => e_iload dX3_edgesBetween_92 (i := 6) (x := x8) rfl k) ?_
          refine ev_br2 (P := x8 = 0) (pct := 97) (pcf := 111) (st' := []) (fun _ _ _ kt kf => e_ifne dX3_edgesBetween_94 (tgt := 111) rfl kt kf) (fun h30 => ?_) (fun h30 => ?_)
          · refine ev_st (pc' := 100) (L' := [xR a, xI i0, xI i1, xI v1, xI v2, xI x5, xI x8]) (st' := [xI (-1), xI x5]) (fun _ _ _ k => e_iload dX3_edgesBetween_97 (i := 5) (x := x5) rfl (e_iconst dX3_edgesBetween_99 (k4 rfl) k)) ?_
            refine ev_br2 (P := x5 = (-1)) (pct := 103) (pcf := 111) (st' := []) (fun _ _ _ kt kf => e_cne dX3_edgesBetween_100 (tgt := 111) rfl kt kf) (fun h31 => ?_) (fun h31 => ?_)
            · refine ev_st (pc' := 106) (L' := [xR a, xI i0, xI i1, xI v1, xI v2, xI x5, xI x8]) (st' := [xI v2, xI 1]) (fun _ _ _ k => e_iconst dX3_edgesBetween_103 (k4 rfl) (e_iload dX3_edgesBetween_104 (i := 4) (x := v2) rfl k)) ?_
              refine ev_callS (As := [xI v2]) (st := [xI 1]) (fun v32 => [xI v32, xI 1]) dX3_edgesBetween_106 mlX3_97 rfl rfl rfl rfl rfl rfl (c_X3_edgeBelow (d := d) v2) (fun _ => trivial) (fun _ => rfl) (fun v32 => ?_)
              exact ev_ret (e_ishl dX3_edgesBetween_109 (e_iret dX3_edgesBetween_110))
            · exact ev_ret (e_iconst dX3_edgesBetween_111 (k4 rfl) (e_iret dX3_edgesBetween_112))
          · exact ev_ret (e_iconst dX3_edgesBetween_111 (k4 rfl) (e_iret dX3_edgesBetween_112))
  · refine ev_st (pc' := 57) (L' := [xR a, xI i0, xI i1, xI v1, xI v2, xI x5, xI x8]) (st' := [xI x5]) (fun _ _ _ k => e_iload dX3_edgesBetween_55 (i := 5) (x := x5) rfl k) ?_
    refine ev_br2 (P := x5 = 0) (pct := 60) (pcf := 74) (st' := []) (fun _ _ _ kt kf => e_ifne dX3_edgesBetween_57 (tgt := 74) rfl kt kf) (fun h33 => ?_) (fun h33 => ?_)
    · refine ev_st (pc' := 63) (L' := [xR a, xI i0, xI i1, xI v1, xI v2, xI x5, xI x8]) (st' := [xI (-1), xI x8]) (fun _ _ _ k => e_iload dX3_edgesBetween_60 (i := 6) (x := x8) rfl (e_iconst dX3_edgesBetween_62 (k4 rfl) k)) ?_
      refine ev_br2 (P := x8 = (-1)) (pct := 66) (pcf := 74) (st' := []) (fun _ _ _ kt kf => e_cne dX3_edgesBetween_63 (tgt := 74) rfl kt kf) (fun h34 => ?_) (fun h34 => ?_)
      · refine ev_st (pc' := 69) (L' := [xR a, xI i0, xI i1, xI v1, xI v2, xI x5, xI x8]) (st' := [xI v2, xI 1]) (fun _ _ _ k => e_iconst dX3_edgesBetween_66 (k4 rfl) (e_iload dX3_edgesBetween_67 (i := 4) (x := v2) rfl k)) ?_
        refine ev_callS (As := [xI v2]) (st := [xI 1]) (fun v35 => [xI v35, xI 1]) dX3_edgesBetween_69 mlX3_94 rfl rfl rfl rfl rfl rfl (c_X3_edgeToRight (d := d) v2) (fun _ => trivial) (fun _ => rfl) (fun v35 => ?_)
        exact ev_ret (e_ishl dX3_edgesBetween_72 (e_iret dX3_edgesBetween_73))
      · refine ev_st (pc' := 76) (L' := [xR a, xI i0, xI i1, xI v1, xI v2, xI x5, xI x8]) (st' := [xI x8]) (fun _ _ _ k => e_iload dX3_edgesBetween_74 (i := 6) (x := x8) rfl k) ?_
        refine ev_br2 (P := x8 = 0) (pct := 79) (pcf := 92) (st' := []) (fun _ _ _ kt kf => e_ifne dX3_edgesBetween_76 (tgt := 92) rfl kt kf) (fun h36 => ?_) (fun h36 => ?_)
        · refine ev_st (pc' := 82) (L' := [xR a, xI i0, xI i1, xI v1, xI v2, xI x5, xI x8]) (st' := [xI 1, xI x5]) (fun _ _ _ k => e_iload dX3_edgesBetween_79 (i := 5) (x := x5) rfl (e_iconst dX3_edgesBetween_81 (k4 rfl) k)) ?_
          refine ev_br2 (P := x5 = 1) (pct := 85) (pcf := 92) (st' := []) (fun _ _ _ kt kf => e_cne dX3_edgesBetween_82 (tgt := 92) rfl kt kf) (fun h37 => ?_) (fun h37 => ?_)
          · refine ev_st (pc' := 87) (L' := [xR a, xI i0, xI i1, xI v1, xI v2, xI x5, xI x8]) (st' := [xI v1, xI 1]) (fun _ _ _ k => e_iconst dX3_edgesBetween_85 (k4 rfl) (e_iload_n dX3_edgesBetween_86 rfl (i := 3) (x := v1) rfl k)) ?_
            refine ev_callS (As := [xI v1]) (st := [xI 1]) (fun v38 => [xI v38, xI 1]) dX3_edgesBetween_87 mlX3_97 rfl rfl rfl rfl rfl rfl (c_X3_edgeBelow (d := d) v1) (fun _ => trivial) (fun _ => rfl) (fun v38 => ?_)
            exact ev_ret (e_ishl dX3_edgesBetween_90 (e_iret dX3_edgesBetween_91))
          · refine ev_st (pc' := 94) (L' := [xR a, xI i0, xI i1, xI v1, xI v2, xI x5, xI x8]) (st' := [xI x8]) (fun _ _ _ k => e_iload dX3_edgesBetween_92 (i := 6) (x := x8) rfl k) ?_
            refine ev_br2 (P := x8 = 0) (pct := 97) (pcf := 111) (st' := []) (fun _ _ _ kt kf => e_ifne dX3_edgesBetween_94 (tgt := 111) rfl kt kf) (fun h39 => ?_) (fun h39 => ?_)
            · refine ev_st (pc' := 100) (L' := [xR a, xI i0, xI i1, xI v1, xI v2, xI x5, xI x8]) (st' := [xI (-1), xI x5]) (fun _ _ _ k => e_iload dX3_edgesBetween_97 (i := 5) (x := x5) rfl (e_iconst dX3_edgesBetween_99 (k4 rfl) k)) ?_
              refine ev_br2 (P := x5 = (-1)) (pct := 103) (pcf := 111) (st' := []) (fun _ _ _ kt kf => e_cne dX3_edgesBetween_100 (tgt := 111) rfl kt kf) (fun h40 => ?_) (fun h40 => ?_)
              · refine ev_st (pc' := 106) (L' := [xR a, xI i0, xI i1, xI v1, xI v2, xI x5, xI x8]) (st' := [xI v2, xI 1]) (fun _ _ _ k => e_iconst dX3_edgesBetween_103 (k4 rfl) (e_iload dX3_edgesBetween_104 (i := 4) (x := v2) rfl k)) ?_
                refine ev_callS (As := [xI v2]) (st := [xI 1]) (fun v41 => [xI v41, xI 1]) dX3_edgesBetween_106 mlX3_97 rfl rfl rfl rfl rfl rfl (c_X3_edgeBelow (d := d) v2) (fun _ => trivial) (fun _ => rfl) (fun v41 => ?_)
                exact ev_ret (e_ishl dX3_edgesBetween_109 (e_iret dX3_edgesBetween_110))
              · exact ev_ret (e_iconst dX3_edgesBetween_111 (k4 rfl) (e_iret dX3_edgesBetween_112))
            · exact ev_ret (e_iconst dX3_edgesBetween_111 (k4 rfl) (e_iret dX3_edgesBetween_112))
        · refine ev_st (pc' := 94) (L' := [xR a, xI i0, xI i1, xI v1, xI v2, xI x5, xI x8]) (st' := [xI x8]) (fun _ _ _ k => e_iload dX3_edgesBetween_92 (i := 6) (x := x8) rfl k) ?_
          refine ev_br2 (P := x8 = 0) (pct := 97) (pcf := 111) (st' := []) (fun _ _ _ kt kf => e_ifne dX3_edgesBetween_94 (tgt := 111) rfl kt kf) (fun h42 => ?_) (fun h42 => ?_)
          · refine ev_st (pc' := 100) (L' := [xR a, xI i0, xI i1, xI v1, xI v2, xI x5, xI x8]) (st' := [xI (-1), xI x5]) (fun _ _ _ k => e_iload dX3_edgesBetween_97 (i := 5) (x := x5) rfl (e_iconst dX3_edgesBetween_99 (k4 rfl) k)) ?_
            refine ev_br2 (P := x5 = (-1)) (pct := 103) (pcf := 111) (st' := []) (fun _ _ _ kt kf => e_cne dX3_edgesBetween_100 (tgt := 111) rfl kt kf) (fun h43 => ?_) (fun h43 => ?_)
            · refine ev_st (pc' := 106) (L' := [xR a, xI i0, xI i1, xI v1, xI v2, xI x5, xI x8]) (st' := [xI v2, xI 1]) (fun _ _ _ k => e_iconst dX3_edgesBetween_103 (k4 rfl) (e_iload dX3_edgesBetween_104 (i := 4) (x := v2) rfl k)) ?_
              refine ev_callS (As := [xI v2]) (st := [xI 1]) (fun v44 => [xI v44, xI 1]) dX3_edgesBetween_106 mlX3_97 rfl rfl rfl rfl rfl rfl (c_X3_edgeBelow (d := d) v2) (fun _ => trivial) (fun _ => rfl) (fun v44 => ?_)
              exact ev_ret (e_ishl dX3_edgesBetween_109 (e_iret dX3_edgesBetween_110))
            · exact ev_ret (e_iconst dX3_edgesBetween_111 (k4 rfl) (e_iret dX3_edgesBetween_112))
          · exact ev_ret (e_iconst dX3_edgesBetween_111 (k4 rfl) (e_iret dX3_edgesBetween_112))
    · refine ev_st (pc' := 76) (L' := [xR a, xI i0, xI i1, xI v1, xI v2, xI x5, xI x8]) (st' := [xI x8]) (fun _ _ _ k => e_iload dX3_edgesBetween_74 (i := 6) (x := x8) rfl k) ?_
      refine ev_br2 (P := x8 = 0) (pct := 79) (pcf := 92) (st' := []) (fun _ _ _ kt kf => e_ifne dX3_edgesBetween_76 (tgt := 92) rfl kt kf) (fun h45 => ?_) (fun h45 => ?_)
      · refine ev_st (pc' := 82) (L' := [xR a, xI i0, xI i1, xI v1, xI v2, xI x5, xI x8]) (st' := [xI 1, xI x5]) (fun _ _ _ k => e_iload dX3_edgesBetween_79 (i := 5) (x := x5) rfl (e_iconst dX3_edgesBetween_81 (k4 rfl) k)) ?_
        refine ev_br2 (P := x5 = 1) (pct := 85) (pcf := 92) (st' := []) (fun _ _ _ kt kf => e_cne dX3_edgesBetween_82 (tgt := 92) rfl kt kf) (fun h46 => ?_) (fun h46 => ?_)
        · refine ev_st (pc' := 87) (L' := [xR a, xI i0, xI i1, xI v1, xI v2, xI x5, xI x8]) (st' := [xI v1, xI 1]) (fun _ _ _ k => e_iconst dX3_edgesBetween_85 (k4 rfl) (e_iload_n dX3_edgesBetween_86 rfl (i := 3) (x := v1) rfl k)) ?_
          refine ev_callS (As := [xI v1]) (st := [xI 1]) (fun v47 => [xI v47, xI 1]) dX3_edgesBetween_87 mlX3_97 rfl rfl rfl rfl rfl rfl (c_X3_edgeBelow (d := d) v1) (fun _ => trivial) (fun _ => rfl) (fun v47 => ?_)
          exact ev_ret (e_ishl dX3_edgesBetween_90 (e_iret dX3_edgesBetween_91))
        · refine ev_st (pc' := 94) (L' := [xR a, xI i0, xI i1, xI v1, xI v2, xI x5, xI x8]) (st' := [xI x8]) (fun _ _ _ k => e_iload dX3_edgesBetween_92 (i := 6) (x := x8) rfl k) ?_
          refine ev_br2 (P := x8 = 0) (pct := 97) (pcf := 111) (st' := []) (fun _ _ _ kt kf => e_ifne dX3_edgesBetween_94 (tgt := 111) rfl kt kf) (fun h48 => ?_) (fun h48 => ?_)
          · refine ev_st (pc' := 100) (L' := [xR a, xI i0, xI i1, xI v1, xI v2, xI x5, xI x8]) (st' := [xI (-1), xI x5]) (fun _ _ _ k => e_iload dX3_edgesBetween_97 (i := 5) (x := x5) rfl (e_iconst dX3_edgesBetween_99 (k4 rfl) k)) ?_
            refine ev_br2 (P := x5 = (-1)) (pct := 103) (pcf := 111) (st' := []) (fun _ _ _ kt kf => e_cne dX3_edgesBetween_100 (tgt := 111) rfl kt kf) (fun h49 => ?_) (fun h49 => ?_)
            · refine ev_st (pc' := 106) (L' := [xR a, xI i0, xI i1, xI v1, xI v2, xI x5, xI x8]) (st' := [xI v2, xI 1]) (fun _ _ _ k => e_iconst dX3_edgesBetween_103 (k4 rfl) (e_iload dX3_edgesBetween_104 (i := 4) (x := v2) rfl k)) ?_
              refine ev_callS (As := [xI v2]) (st := [xI 1]) (fun v50 => [xI v50, xI 1]) dX3_edgesBetween_106 mlX3_97 rfl rfl rfl rfl rfl rfl (c_X3_edgeBelow (d := d) v2) (fun _ => trivial) (fun _ => rfl) (fun v50 => ?_)
              exact ev_ret (e_ishl dX3_edgesBetween_109 (e_iret dX3_edgesBetween_110))
            · exact ev_ret (e_iconst dX3_edgesBetween_111 (k4 rfl) (e_iret dX3_edgesBetween_112))
          · exact ev_ret (e_iconst dX3_edgesBetween_111 (k4 rfl) (e_iret dX3_edgesBetween_112))
      · refine ev_st (pc' := 94) (L' := [xR a, xI i0, xI i1, xI v1, xI v2, xI x5, xI x8]) (st' := [xI x8]) (fun _ _ _ k => e_iload dX3_edgesBetween_92 (i := 6) (x := x8) rfl k) ?_
        refine ev_br2 (P := x8 = 0) (pct := 97) (pcf := 111) (st' := []) (fun _ _ _ kt kf => e_ifne dX3_edgesBetween_94 (tgt := 111) rfl kt kf) (fun h51 => ?_) (fun h51 => ?_)
        · refine ev_st (pc' := 100) (L' := [xR a, xI i0, xI i1, xI v1, xI v2, xI x5, xI x8]) (st' := [xI (-1), xI x5]) (fun _ _ _ k => e_iload dX3_edgesBetween_97 (i := 5) (x := x5) rfl (e_iconst dX3_edgesBetween_99 (k4 rfl) k)) ?_
          refine ev_br2 (P := x5 = (-1)) (pct := 103) (pcf := 111) (st' := []) (fun _ _ _ kt kf => e_cne dX3_edgesBetween_100 (tgt := 111) rfl kt kf) (fun h52 => ?_) (fun h52 => ?_)
          · refine ev_st (pc' := 106) (L' := [xR a, xI i0, xI i1, xI v1, xI v2, xI x5, xI x8]) (st' := [xI v2, xI 1]) (fun _ _ _ k => e_iconst dX3_edgesBetween_103 (k4 rfl) (e_iload dX3_edgesBetween_104 (i := 4) (x := v2) rfl k)) ?_
            refine ev_callS (As := [xI v2]) (st := [xI 1]) (fun v53 => [xI v53, xI 1]) dX3_edgesBetween_106 mlX3_97 rfl rfl rfl rfl rfl rfl (c_X3_edgeBelow (d := d) v2) (fun _ => trivial) (fun _ => rfl) (fun v53 => ?_)
            exact ev_ret (e_ishl dX3_edgesBetween_109 (e_iret dX3_edgesBetween_110))
          · exact ev_ret (e_iconst dX3_edgesBetween_111 (k4 rfl) (e_iret dX3_edgesBetween_112))
        · exact ev_ret (e_iconst dX3_edgesBetween_111 (k4 rfl) (e_iret dX3_edgesBetween_112))
def f_X0_spineEdge (a : Nat) (R : xN) : Option (Int) :=
  xlet (if (R a 5) = 1 then 2 else 0) (fun t1 =>
  some t1)
set_option maxRecDepth 20000 in
set_option maxHeartbeats 4000000 in
theorem c_X0_spineEdge {l : Launch} {g : xG} {d : Nat} {A : xA} {R : xN} {a : Nat} (h_a : sh 0 A a)  : Ev l g (d) mX0_spineEdge 0 [xR a] [] A R (fun v : Int => some (xI v)) (fun _ => R) (f_X0_spineEdge a R) := by
  rw [f_X0_spineEdge]
  refine ev_st (pc' := 5) (L' := [xR a]) (st' := [xI 1, xI (R a 5)]) (fun _ _ _ k => e_aload_n dX0_spineEdge_0 rfl (i := 0) (x := a) rfl (e_geti dX0_spineEdge_1 flX0_43 (kd0_0 h_a) (Or.inl rfl) (e_iconst dX0_spineEdge_4 (k4 rfl) k))) ?_
  refine ev_tern (P := (R a 5) = 1) (a := 2) (b := 0) (pct := 8) (pcf := 12) (J := 13) (st' := []) (fun _ _ _ kt kf => e_cne dX0_spineEdge_5 (tgt := 12) rfl kt kf) (fun _ _ _ k => e_iconst dX0_spineEdge_8 (k4 rfl) (e_goto dX0_spineEdge_9 (tgt := 13) rfl k)) (fun _ _ _ k => e_iconst dX0_spineEdge_12 (k4 rfl) k) (fun t1 et1 => ?_)
  exact ev_ret (e_iret dX0_spineEdge_13)
def lp_X0_shutEdges_23 (a : Nat) (p1 : Int) (p3 : Int) (R : xN) : Nat → Int → Int → (Int → Int → Option (Int)) → Option (Int)
  | 0, _, _, _ => none
  | n + 1, y2, y4, X =>
    (f_X3_depth (a + 4) R).bind (fun v4 =>
    if v4 ≤ y4 then
    X y2 y4
    else
    (f_X3_edgesBetween (a + 4) p3 y4 R).bind (fun v6 =>
    xlet (b4or y2 v6) (fun x7 =>
    xlet (w4 (y4 + 1)) (fun x8 =>
    lp_X0_shutEdges_23 a p1 p3 R n x7 x8 X))))
def lp_X0_shutEdges_4 (a : Nat) (p1 : Int) (R : xN) : Nat → Int → Int → (Int → Int → Option (Int)) → Option (Int)
  | 0, _, _, _ => none
  | n + 1, y2, y3, X =>
    if p1 ≤ y3 then
    X y2 y3
    else
    (f_X3_depth (a + 4) R).bind (fun v2 =>
    if v2 ≤ y3 then
    X y2 y3
    else
    lp_X0_shutEdges_23 a p1 y3 R 6000 y2 p1 (fun z9 z10 =>
    xlet (w4 (y3 + 1)) (fun x11 =>
    lp_X0_shutEdges_4 a p1 R n z9 x11 X)))
def f_X0_shutEdges (a : Nat) (i0 : Int) (R : xN) : Option (Int) :=
  lp_X0_shutEdges_4 a i0 R 6000 0 0 (fun z12 z13 =>
  (f_X0_spineEdge a R).bind (fun v14 =>
  some (b4and (b4and z12 (b4xor (R a 6) (-1))) (b4xor (b4shl 1 v14) (-1)))))
set_option maxRecDepth 20000 in
set_option maxHeartbeats 4000000 in
theorem lc_X0_shutEdges_23 {l : Launch} {g : xG} {d : Nat} {A : xA} {a : Nat} (h_a : sh 0 A a) (p1 : Int) (p3 : Int) (R : xN) {X : Int → Int → Option (Int)} (hX : ∀ (y2 : Int) (y4 : Int), Ev l g (d + 2) mX0_shutEdges 54 [xR a, xI p1, xI y2, xI p3, xU] [] A R (fun v : Int => some (xI v)) (fun _ => R) (X y2 y4)) (n : Nat) (y2 : Int) (y4 : Int) : Ev l g (d + 2) mX0_shutEdges 23 [xR a, xI p1, xI y2, xI p3, xI y4] [] A R (fun v : Int => some (xI v)) (fun _ => R) (lp_X0_shutEdges_23 a p1 p3 R n y2 y4 X) := by
  induction n generalizing y2 y4 with
  | zero => exact ev_none
  | succ n ih =>
    rw [lp_X0_shutEdges_23]
    refine ev_st (pc' := 29) (L' := [xR a, xI p1, xI y2, xI p3, xI y4]) (st' := [xR (a + 4), xI y4]) (fun _ _ _ k => e_iload dX0_shutEdges_23 (i := 4) (x := y4) rfl (e_aload_n dX0_shutEdges_25 rfl (i := 0) (x := a) rfl (e_getr dX0_shutEdges_26 flX0_21 (kd0_0 h_a) rfl (rf0_0_1 h_a) k))) ?_
    refine ev_callV (As := []) (st := [xI y4]) (fun v4 => [xI v4, xI y4]) dX0_shutEdges_29 mlX0_107 (kd0_4 h_a) rfl rfl rfl rfl rfl rfl (c_X3_depth (d := d + 1) (sb0_4_3 h_a)) (fun _ => trivial) (fun _ => rfl) (fun v4 => ?_)
    refine ev_br2 (P := v4 ≤ y4) (pct := 54) (pcf := 35) (st' := []) (fun _ _ _ kt kf => e_cge dX0_shutEdges_32 (tgt := 54) rfl kt kf) (fun h5 => ?_) (fun h5 => ?_)
    · refine ev_st (pc' := 54) (L' := [xR a, xI p1, xI y2, xI p3, xU]) (st' := []) (fun _ _ _ k => e_fg [4] k) ?_
      exact hX y2 y4
    · refine ev_st (pc' := 43) (L' := [xR a, xI p1, xI y2, xI p3, xI y4]) (st' := [xI y4, xI p3, xR (a + 4), xI y2]) (fun _ _ _ k => e_iload_n dX0_shutEdges_35 rfl (i := 2) (x := y2) rfl (e_aload_n dX0_shutEdges_36 rfl (i := 0) (x := a) rfl (e_getr dX0_shutEdges_37 flX0_21 (kd0_0 h_a) rfl (rf0_0_1 h_a) (e_iload_n dX0_shutEdges_40 rfl (i := 3) (x := p3) rfl (e_iload dX0_shutEdges_41 (i := 4) (x := y4) rfl k))))) ?_
      refine ev_callV (As := [xI p3, xI y4]) (st := [xI y2]) (fun v6 => [xI v6, xI y2]) dX0_shutEdges_43 mlX0_193 (kd0_4 h_a) rfl rfl rfl rfl rfl rfl (c_X3_edgesBetween (d := d) (sb0_4_3 h_a) p3 y4) (fun _ => trivial) (fun _ => rfl) (fun v6 => ?_)
      refine ev_st (pc' := 47) (L' := [xR a, xI p1, xI y2, xI p3, xI y4]) (st' := [xI (b4or y2 v6)]) (fun _ _ _ k => e_ior dX0_shutEdges_46 k) ?_
      refine ev_leti (fun x7 ex7 => ?_)
      refine ev_st (pc' := 48) (L' := [xR a, xI p1, xI x7, xI p3, xI y4]) (st' := []) (fun _ _ _ k => e_istore_n dX0_shutEdges_47 rfl (i := 2) rfl (L' := [xR a, xI p1, xI x7, xI p3, xI y4]) rfl k) ?_
      refine ev_letx (fun x8 ex8 => ?_)
      refine ev_st (pc' := 51) (L' := [xR a, xI p1, xI x7, xI p3, xI x8]) (st' := []) (fun _ _ _ k => e_iinc dX0_shutEdges_48 (i := 4) rfl (x := y4) rfl (y := x8) ex8 (L' := [xR a, xI p1, xI x7, xI p3, xI x8]) rfl k) ?_
      refine ev_st (pc' := 23) (L' := [xR a, xI p1, xI x7, xI p3, xI x8]) (st' := []) (fun _ _ _ k => e_goto dX0_shutEdges_51 (tgt := 23) rfl k) ?_
      exact ih x7 x8
set_option maxRecDepth 20000 in
set_option maxHeartbeats 4000000 in
theorem lc_X0_shutEdges_4 {l : Launch} {g : xG} {d : Nat} {A : xA} {a : Nat} (h_a : sh 0 A a) (p1 : Int) (R : xN) {X : Int → Int → Option (Int)} (hX : ∀ (y2 : Int) (y3 : Int), Ev l g (d + 2) mX0_shutEdges 60 [xR a, xU, xI y2, xU, xU] [] A R (fun v : Int => some (xI v)) (fun _ => R) (X y2 y3)) (n : Nat) (y2 : Int) (y3 : Int) : Ev l g (d + 2) mX0_shutEdges 4 [xR a, xI p1, xI y2, xI y3, xU] [] A R (fun v : Int => some (xI v)) (fun _ => R) (lp_X0_shutEdges_4 a p1 R n y2 y3 X) := by
  induction n generalizing y2 y3 with
  | zero => exact ev_none
  | succ n ih =>
    rw [lp_X0_shutEdges_4]
    refine ev_st (pc' := 6) (L' := [xR a, xI p1, xI y2, xI y3, xU]) (st' := [xI p1, xI y3]) (fun _ _ _ k => e_iload_n dX0_shutEdges_4 rfl (i := 3) (x := y3) rfl (e_iload_n dX0_shutEdges_5 rfl (i := 1) (x := p1) rfl k)) ?_
    refine ev_br2 (P := p1 ≤ y3) (pct := 60) (pcf := 9) (st' := []) (fun _ _ _ kt kf => e_cge dX0_shutEdges_6 (tgt := 60) rfl kt kf) (fun h1 => ?_) (fun h1 => ?_)
    · refine ev_st (pc' := 60) (L' := [xR a, xU, xI y2, xU, xU]) (st' := []) (fun _ _ _ k => e_fg [1, 3] k) ?_
      exact hX y2 y3
    · refine ev_st (pc' := 14) (L' := [xR a, xI p1, xI y2, xI y3, xU]) (st' := [xR (a + 4), xI y3]) (fun _ _ _ k => e_iload_n dX0_shutEdges_9 rfl (i := 3) (x := y3) rfl (e_aload_n dX0_shutEdges_10 rfl (i := 0) (x := a) rfl (e_getr dX0_shutEdges_11 flX0_21 (kd0_0 h_a) rfl (rf0_0_1 h_a) k))) ?_
      refine ev_callV (As := []) (st := [xI y3]) (fun v2 => [xI v2, xI y3]) dX0_shutEdges_14 mlX0_107 (kd0_4 h_a) rfl rfl rfl rfl rfl rfl (c_X3_depth (d := d + 1) (sb0_4_3 h_a)) (fun _ => trivial) (fun _ => rfl) (fun v2 => ?_)
      refine ev_br2 (P := v2 ≤ y3) (pct := 60) (pcf := 20) (st' := []) (fun _ _ _ kt kf => e_cge dX0_shutEdges_17 (tgt := 60) rfl kt kf) (fun h3 => ?_) (fun h3 => ?_)
      · refine ev_st (pc' := 60) (L' := [xR a, xU, xI y2, xU, xU]) (st' := []) (fun _ _ _ k => e_fg [1, 3] k) ?_
        exact hX y2 y3
      · refine ev_st (pc' := 23) (L' := [xR a, xI p1, xI y2, xI y3, xI p1]) (st' := []) (fun _ _ _ k => e_iload_n dX0_shutEdges_20 rfl (i := 1) (x := p1) rfl (e_istore dX0_shutEdges_21 (i := 4) rfl (L' := [xR a, xI p1, xI y2, xI y3, xI p1]) rfl k)) ?_
        refine lc_X0_shutEdges_23 h_a p1 y3 R (fun z9 z10 => ?_) 6000 y2 p1
        refine ev_letx (fun x11 ex11 => ?_)
        refine ev_st (pc' := 57) (L' := [xR a, xI p1, xI z9, xI x11, xU]) (st' := []) (fun _ _ _ k => e_iinc dX0_shutEdges_54 (i := 3) rfl (x := y3) rfl (y := x11) ex11 (L' := [xR a, xI p1, xI z9, xI x11, xU]) rfl k) ?_
        refine ev_st (pc' := 4) (L' := [xR a, xI p1, xI z9, xI x11, xU]) (st' := []) (fun _ _ _ k => e_goto dX0_shutEdges_57 (tgt := 4) rfl k) ?_
        exact ih z9 x11
set_option maxRecDepth 20000 in
set_option maxHeartbeats 4000000 in
theorem c_X0_shutEdges {l : Launch} {g : xG} {d : Nat} {A : xA} {R : xN} {a : Nat} (h_a : sh 0 A a) (i0 : Int) : Ev l g (d + 2) mX0_shutEdges 0 [xR a, xI i0, xU, xU, xU] [] A R (fun v : Int => some (xI v)) (fun _ => R) (f_X0_shutEdges a i0 R) := by
  rw [f_X0_shutEdges]
  refine ev_st (pc' := 4) (L' := [xR a, xI i0, xI 0, xI 0, xU]) (st' := []) (fun _ _ _ k => e_iconst dX0_shutEdges_0 (k4 rfl) (e_istore_n dX0_shutEdges_1 rfl (i := 2) rfl (L' := [xR a, xI i0, xI 0, xU, xU]) rfl (e_iconst dX0_shutEdges_2 (k4 rfl) (e_istore_n dX0_shutEdges_3 rfl (i := 3) rfl (L' := [xR a, xI i0, xI 0, xI 0, xU]) rfl k)))) ?_
  refine lc_X0_shutEdges_4 h_a i0 R (fun z12 z13 => ?_) 6000 0 0
  refine ev_st (pc' := 70) (L' := [xR a, xU, xI z12, xU, xU]) (st' := [xR a, xI 1, xI (b4and z12 (b4xor (R a 6) (-1)))]) (fun _ _ _ k => e_iload_n dX0_shutEdges_60 rfl (i := 2) (x := z12) rfl (e_aload_n dX0_shutEdges_61 rfl (i := 0) (x := a) rfl (e_geti dX0_shutEdges_62 flX0_47 (kd0_0 h_a) (Or.inl rfl) (e_iconst dX0_shutEdges_65 (k4 rfl) (e_ixor dX0_shutEdges_66 (e_iand dX0_shutEdges_67 (e_iconst dX0_shutEdges_68 (k4 rfl) (e_aload_n dX0_shutEdges_69 rfl (i := 0) (x := a) rfl k)))))))) ?_
  refine ev_callV (As := []) (st := [xI 1, xI (b4and z12 (b4xor (R a 6) (-1)))]) (fun v14 => [xI v14, xI 1, xI (b4and z12 (b4xor (R a 6) (-1)))]) dX0_shutEdges_70 mlX0_196 (kd0_0 h_a) rfl rfl rfl rfl rfl rfl (c_X0_spineEdge (d := d + 1) h_a) (fun _ => trivial) (fun _ => rfl) (fun v14 => ?_)
  exact ev_ret (e_ishl dX0_shutEdges_73 (e_iconst dX0_shutEdges_74 (k4 rfl) (e_ixor dX0_shutEdges_75 (e_iand dX0_shutEdges_76 (e_iret dX0_shutEdges_77)))))
def f_X0_linesAt (a : Nat) (i0 : Int) (R : xN) : Option (Int) :=
  (f_X0_shutEdges a i0 R).bind (fun v1 =>
  if v1 = 0 then
  if i0 = 0 then
  some (R a 9)
  else
  (f_X3_depth (a + 4) R).bind (fun v4 =>
  xlet (if i0 = v4 then (R a 9) else (w4 ((R a 9) * 2))) (fun t5 =>
  some t5))
  else
  some 0)
set_option maxRecDepth 20000 in
set_option maxHeartbeats 4000000 in
theorem c_X0_linesAt {l : Launch} {g : xG} {d : Nat} {A : xA} {R : xN} {a : Nat} (h_a : sh 0 A a) (i0 : Int) : Ev l g (d + 3) mX0_linesAt 0 [xR a, xI i0] [] A R (fun v : Int => some (xI v)) (fun _ => R) (f_X0_linesAt a i0 R) := by
  rw [f_X0_linesAt]
  refine ev_st (pc' := 2) (L' := [xR a, xI i0]) (st' := [xI i0, xR a]) (fun _ _ _ k => e_aload_n dX0_linesAt_0 rfl (i := 0) (x := a) rfl (e_iload_n dX0_linesAt_1 rfl (i := 1) (x := i0) rfl k)) ?_
  refine ev_callV (As := [xI i0]) (st := []) (fun v1 => [xI v1]) dX0_linesAt_2 mlX0_199 (kd0_0 h_a) rfl rfl rfl rfl rfl rfl (c_X0_shutEdges (d := d) h_a i0) (fun _ => trivial) (fun _ => rfl) (fun v1 => ?_)
  refine ev_br2 (P := v1 = 0) (pct := 10) (pcf := 8) (st' := []) (fun _ _ _ kt kf => e_ifeq dX0_linesAt_5 (tgt := 10) rfl kt kf) (fun h2 => ?_) (fun h2 => ?_)
  · refine ev_st (pc' := 11) (L' := [xR a, xI i0]) (st' := [xI i0]) (fun _ _ _ k => e_iload_n dX0_linesAt_10 rfl (i := 1) (x := i0) rfl k) ?_
    refine ev_br2 (P := i0 = 0) (pct := 25) (pcf := 14) (st' := []) (fun _ _ _ kt kf => e_ifeq dX0_linesAt_11 (tgt := 25) rfl kt kf) (fun h3 => ?_) (fun h3 => ?_)
    · exact ev_ret (e_aload_n dX0_linesAt_25 rfl (i := 0) (x := a) rfl (e_geti dX0_linesAt_26 flX0_56 (kd0_0 h_a) (Or.inl rfl) (e_goto dX0_linesAt_29 (tgt := 38) rfl (e_iret dX0_linesAt_38))))
    · refine ev_st (pc' := 19) (L' := [xR a, xI i0]) (st' := [xR (a + 4), xI i0]) (fun _ _ _ k => e_iload_n dX0_linesAt_14 rfl (i := 1) (x := i0) rfl (e_aload_n dX0_linesAt_15 rfl (i := 0) (x := a) rfl (e_getr dX0_linesAt_16 flX0_21 (kd0_0 h_a) rfl (rf0_0_1 h_a) k))) ?_
      refine ev_callV (As := []) (st := [xI i0]) (fun v4 => [xI v4, xI i0]) dX0_linesAt_19 mlX0_107 (kd0_4 h_a) rfl rfl rfl rfl rfl rfl (c_X3_depth (d := d + 2) (sb0_4_3 h_a)) (fun _ => trivial) (fun _ => rfl) (fun v4 => ?_)
      refine ev_tern (P := i0 = v4) (a := (R a 9)) (b := (w4 ((R a 9) * 2))) (pct := 25) (pcf := 32) (J := 38) (st' := []) (fun _ _ _ kt kf => e_cne dX0_linesAt_22 (tgt := 32) rfl kt kf) (fun _ _ _ k => e_aload_n dX0_linesAt_25 rfl (i := 0) (x := a) rfl (e_geti dX0_linesAt_26 flX0_56 (kd0_0 h_a) (Or.inl rfl) (e_goto dX0_linesAt_29 (tgt := 38) rfl k))) (fun _ _ _ k => e_aload_n dX0_linesAt_32 rfl (i := 0) (x := a) rfl (e_geti dX0_linesAt_33 flX0_56 (kd0_0 h_a) (Or.inl rfl) (e_iconst dX0_linesAt_36 (k4 rfl) (e_imul dX0_linesAt_37 k)))) (fun t5 et5 => ?_)
      exact ev_ret (e_iret dX0_linesAt_38)
  · exact ev_ret (e_iconst dX0_linesAt_8 (k4 rfl) (e_iret dX0_linesAt_9))
def f_X0_isHidden (a : Nat) (i0 : Int) (R : xN) : Option (Bool) :=
  (f_X0_shutEdges a (w4 (Int.tdiv (w4 (i0 + 1)) 2)) R).bind (fun v1 =>
  if v1 = 0 then
  some false
  else
  some true)
set_option maxRecDepth 20000 in
set_option maxHeartbeats 4000000 in
theorem c_X0_isHidden {l : Launch} {g : xG} {d : Nat} {A : xA} {R : xN} {a : Nat} (h_a : sh 0 A a) (i0 : Int) : Ev l g (d + 3) mX0_isHidden 0 [xR a, xI i0] [] A R (fun v : Bool => some (xI (xz v))) (fun _ => R) (f_X0_isHidden a i0 R) := by
  rw [f_X0_isHidden]
  refine ev_st (pc' := 6) (L' := [xR a, xI i0]) (st' := [xI (w4 (Int.tdiv (w4 (i0 + 1)) 2)), xR a]) (fun _ _ _ k => e_aload_n dX0_isHidden_0 rfl (i := 0) (x := a) rfl (e_iload_n dX0_isHidden_1 rfl (i := 1) (x := i0) rfl (e_iconst dX0_isHidden_2 (k4 rfl) (e_iadd dX0_isHidden_3 (e_iconst dX0_isHidden_4 (k4 rfl) (e_idiv dX0_isHidden_5 (by decide) k)))))) ?_
  refine ev_callV (As := [xI (w4 (Int.tdiv (w4 (i0 + 1)) 2))]) (st := []) (fun v1 => [xI v1]) dX0_isHidden_6 mlX0_199 (kd0_0 h_a) rfl rfl rfl rfl rfl rfl (c_X0_shutEdges (d := d) h_a (w4 (Int.tdiv (w4 (i0 + 1)) 2))) (fun _ => trivial) (fun _ => rfl) (fun v1 => ?_)
  refine ev_br2 (P := v1 = 0) (pct := 16) (pcf := 12) (st' := []) (fun _ _ _ kt kf => e_ifeq dX0_isHidden_9 (tgt := 16) rfl kt kf) (fun h2 => ?_) (fun h2 => ?_)
  · exact ev_ret (e_iconst dX0_isHidden_16 (k4 rfl) (e_iret dX0_isHidden_17))
  · exact ev_ret (e_iconst dX0_isHidden_12 (k4 rfl) (e_goto dX0_isHidden_13 (tgt := 17) rfl (e_iret dX0_isHidden_17)))
def f_X0_whyNotRead (a : Nat) (i0 : Int) (R : xN) : Option (Int) :=
  (f_X0_isHidden a i0 R).bind (fun v1 =>
  if v1 = true then
  some 1
  else
  (f_X0_numberOn a (a + 4) i0 R).bind (fun v3 =>
  if v3 = (-9) then
  some 2
  else
  if v3 = i0 then
  (f_X0_isUpright a (a + 4) i0 R).bind (fun v6 =>
  xlet (if v6 = true then 0 else 4) (fun t7 =>
  some t7))
  else
  some 3))
set_option maxRecDepth 20000 in
set_option maxHeartbeats 4000000 in
theorem c_X0_whyNotRead {l : Launch} {g : xG} {d : Nat} {A : xA} {R : xN} {a : Nat} (h_a : sh 0 A a) (i0 : Int) : Ev l g (d + 4) mX0_whyNotRead 0 [xR a, xI i0, xU] [] A R (fun v : Int => some (xI v)) (fun _ => R) (f_X0_whyNotRead a i0 R) := by
  rw [f_X0_whyNotRead]
  refine ev_st (pc' := 2) (L' := [xR a, xI i0, xU]) (st' := [xI i0, xR a]) (fun _ _ _ k => e_aload_n dX0_whyNotRead_0 rfl (i := 0) (x := a) rfl (e_iload_n dX0_whyNotRead_1 rfl (i := 1) (x := i0) rfl k)) ?_
  refine ev_callV (As := [xI i0]) (st := []) (fun v1 => [xI (xz v1)]) dX0_whyNotRead_2 mlX0_202 (kd0_0 h_a) rfl rfl rfl rfl rfl rfl (c_X0_isHidden (d := d) h_a i0) (fun _ => xz01 _) (fun _ => rfl) (fun v1 => ?_)
  refine ev_br2 (P := v1 = true) (pct := 8) (pcf := 10) (st' := []) (fun _ _ _ kt kf => e_ifeqz dX0_whyNotRead_5 (tgt := 10) rfl kt kf) (fun h2 => ?_) (fun h2 => ?_)
  · exact ev_ret (e_iconst dX0_whyNotRead_8 (k4 rfl) (e_iret dX0_whyNotRead_9))
  · refine ev_st (pc' := 16) (L' := [xR a, xI i0, xU]) (st' := [xI i0, xR (a + 4), xR a]) (fun _ _ _ k => e_aload_n dX0_whyNotRead_10 rfl (i := 0) (x := a) rfl (e_aload_n dX0_whyNotRead_11 rfl (i := 0) (x := a) rfl (e_getr dX0_whyNotRead_12 flX0_21 (kd0_0 h_a) rfl (rf0_0_1 h_a) (e_iload_n dX0_whyNotRead_15 rfl (i := 1) (x := i0) rfl k)))) ?_
    refine ev_callV (As := [xR (a + 4), xI i0]) (st := []) (fun v3 => [xI v3]) dX0_whyNotRead_16 mlX0_205 (kd0_0 h_a) rfl rfl rfl rfl rfl rfl (c_X0_numberOn (d := d + 1) h_a (sb0_4_3 h_a) i0) (fun _ => trivial) (fun _ => rfl) (fun v3 => ?_)
    refine ev_st (pc' := 23) (L' := [xR a, xI i0, xI v3]) (st' := [xI (-9), xI v3]) (fun _ _ _ k => e_istore_n dX0_whyNotRead_19 rfl (i := 2) rfl (L' := [xR a, xI i0, xI v3]) rfl (e_iload_n dX0_whyNotRead_20 rfl (i := 2) (x := v3) rfl (e_bipush dX0_whyNotRead_21 rfl (k4 rfl) k))) ?_
    refine ev_br2 (P := v3 = (-9)) (pct := 26) (pcf := 28) (st' := []) (fun _ _ _ kt kf => e_cne dX0_whyNotRead_23 (tgt := 28) rfl kt kf) (fun h4 => ?_) (fun h4 => ?_)
    · exact ev_ret (e_iconst dX0_whyNotRead_26 (k4 rfl) (e_iret dX0_whyNotRead_27))
    · refine ev_st (pc' := 30) (L' := [xR a, xI i0, xI v3]) (st' := [xI i0, xI v3]) (fun _ _ _ k => e_iload_n dX0_whyNotRead_28 rfl (i := 2) (x := v3) rfl (e_iload_n dX0_whyNotRead_29 rfl (i := 1) (x := i0) rfl k)) ?_
      refine ev_br2 (P := v3 = i0) (pct := 35) (pcf := 33) (st' := []) (fun _ _ _ kt kf => e_ceq dX0_whyNotRead_30 (tgt := 35) rfl kt kf) (fun h5 => ?_) (fun h5 => ?_)
      · refine ev_st (pc' := 41) (L' := [xR a, xI i0, xI v3]) (st' := [xI i0, xR (a + 4), xR a]) (fun _ _ _ k => e_aload_n dX0_whyNotRead_35 rfl (i := 0) (x := a) rfl (e_aload_n dX0_whyNotRead_36 rfl (i := 0) (x := a) rfl (e_getr dX0_whyNotRead_37 flX0_21 (kd0_0 h_a) rfl (rf0_0_1 h_a) (e_iload_n dX0_whyNotRead_40 rfl (i := 1) (x := i0) rfl k)))) ?_
        refine ev_callV (As := [xR (a + 4), xI i0]) (st := []) (fun v6 => [xI (xz v6)]) dX0_whyNotRead_41 mlX0_208 (kd0_0 h_a) rfl rfl rfl rfl rfl rfl (c_X0_isUpright (d := d) h_a (sb0_4_3 h_a) i0) (fun _ => xz01 _) (fun _ => rfl) (fun v6 => ?_)
        refine ev_tern (P := v6 = true) (a := 0) (b := 4) (pct := 47) (pcf := 51) (J := 52) (st' := []) (fun _ _ _ kt kf => e_ifeqz dX0_whyNotRead_44 (tgt := 51) rfl kt kf) (fun _ _ _ k => e_iconst dX0_whyNotRead_47 (k4 rfl) (e_goto dX0_whyNotRead_48 (tgt := 52) rfl k)) (fun _ _ _ k => e_iconst dX0_whyNotRead_51 (k4 rfl) k) (fun t7 et7 => ?_)
        exact ev_ret (e_iret dX0_whyNotRead_52)
      · exact ev_ret (e_iconst dX0_whyNotRead_33 (k4 rfl) (e_iret dX0_whyNotRead_34))
def lp_X0_heldWith_4 (a : Nat) (p1 : Int) (R : xN) : Nat → Int → Int → (Int → Int → Option (Int)) → Option (Int)
  | 0, _, _, _ => none
  | n + 1, y2, y3, X =>
    (f_X3_depth (a + 4) R).bind (fun v1 =>
    if v1 ≤ y3 then
    X y2 y3
    else
    if (R a 7) = 0 then
    (f_X3_edgesBetween (a + 4) p1 y3 R).bind (fun v4 =>
    if (b4and v4 (b4xor (R a 6) (-1))) = 0 then
    xlet (w4 (y3 + 1)) (fun x6 =>
    lp_X0_heldWith_4 a p1 R n y2 x6 X)
    else
    xlet (b4or y2 (b4shl 1 y3)) (fun x7 =>
    xlet (w4 (y3 + 1)) (fun x8 =>
    lp_X0_heldWith_4 a p1 R n x7 x8 X)))
    else
    if (R a 8) ≤ p1 then
    (f_X3_edgesBetween (a + 4) p1 y3 R).bind (fun v10 =>
    if (b4and v10 (b4xor (R a 6) (-1))) = 0 then
    xlet (w4 (y3 + 1)) (fun x12 =>
    lp_X0_heldWith_4 a p1 R n y2 x12 X)
    else
    xlet (b4or y2 (b4shl 1 y3)) (fun x13 =>
    xlet (w4 (y3 + 1)) (fun x14 =>
    lp_X0_heldWith_4 a p1 R n x13 x14 X)))
    else
    if (R a 8) ≤ y3 then
    (f_X3_edgesBetween (a + 4) p1 y3 R).bind (fun v16 =>
    if (b4and v16 (b4xor (R a 6) (-1))) = 0 then
    xlet (w4 (y3 + 1)) (fun x18 =>
    lp_X0_heldWith_4 a p1 R n y2 x18 X)
    else
    xlet (b4or y2 (b4shl 1 y3)) (fun x19 =>
    xlet (w4 (y3 + 1)) (fun x20 =>
    lp_X0_heldWith_4 a p1 R n x19 x20 X)))
    else
    xlet (b4or y2 (b4shl 1 y3)) (fun x21 =>
    xlet (w4 (y3 + 1)) (fun x22 =>
    lp_X0_heldWith_4 a p1 R n x21 x22 X)))
def f_X0_heldWith (a : Nat) (i0 : Int) (R : xN) : Option (Int) :=
  lp_X0_heldWith_4 a i0 R 6000 0 0 (fun z23 z24 =>
  some z23)
set_option maxRecDepth 20000 in
set_option maxHeartbeats 4000000 in
theorem lc_X0_heldWith_4 {l : Launch} {g : xG} {d : Nat} {A : xA} {a : Nat} (h_a : sh 0 A a) (p1 : Int) (R : xN) {X : Int → Int → Option (Int)} (hX : ∀ (y2 : Int) (y3 : Int), Ev l g (d + 2) mX0_heldWith 81 [xU, xU, xI y2, xU, xU] [] A R (fun v : Int => some (xI v)) (fun _ => R) (X y2 y3)) (n : Nat) (y2 : Int) (y3 : Int) : Ev l g (d + 2) mX0_heldWith 4 [xR a, xI p1, xI y2, xI y3, xU] [] A R (fun v : Int => some (xI v)) (fun _ => R) (lp_X0_heldWith_4 a p1 R n y2 y3 X) := by
  induction n generalizing y2 y3 with
  | zero => exact ev_none
  | succ n ih =>
    rw [lp_X0_heldWith_4]
    refine ev_st (pc' := 9) (L' := [xR a, xI p1, xI y2, xI y3, xU]) (st' := [xR (a + 4), xI y3]) (fun _ _ _ k => e_iload_n dX0_heldWith_4 rfl (i := 3) (x := y3) rfl (e_aload_n dX0_heldWith_5 rfl (i := 0) (x := a) rfl (e_getr dX0_heldWith_6 flX0_21 (kd0_0 h_a) rfl (rf0_0_1 h_a) k))) ?_
    refine ev_callV (As := []) (st := [xI y3]) (fun v1 => [xI v1, xI y3]) dX0_heldWith_9 mlX0_107 (kd0_4 h_a) rfl rfl rfl rfl rfl rfl (c_X3_depth (d := d + 1) (sb0_4_3 h_a)) (fun _ => trivial) (fun _ => rfl) (fun v1 => ?_)
    refine ev_br2 (P := v1 ≤ y3) (pct := 81) (pcf := 15) (st' := []) (fun _ _ _ kt kf => e_cge dX0_heldWith_12 (tgt := 81) rfl kt kf) (fun h2 => ?_) (fun h2 => ?_)
    · refine ev_st (pc' := 81) (L' := [xU, xU, xI y2, xU, xU]) (st' := []) (fun _ _ _ k => e_fg [0, 1, 3] k) ?_
      exact hX y2 y3
    · refine ev_st (pc' := 19) (L' := [xR a, xI p1, xI y2, xI y3, xU]) (st' := [xI (R a 7)]) (fun _ _ _ k => e_aload_n dX0_heldWith_15 rfl (i := 0) (x := a) rfl (e_geti dX0_heldWith_16 flX0_50 (kd0_0 h_a) (Or.inl rfl) k)) ?_
      refine ev_br2 (P := (R a 7) = 0) (pct := 42) (pcf := 22) (st' := []) (fun _ _ _ kt kf => e_ifeq dX0_heldWith_19 (tgt := 42) rfl kt kf) (fun h3 => ?_) (fun h3 => ?_)
      · refine ev_st (pc' := 50) (L' := [xR a, xI p1, xI y2, xI y3, xI 0]) (st' := []) (fun _ _ _ k => e_iconst dX0_heldWith_42 (k4 rfl) (e_istore dX0_heldWith_43 (i := 4) rfl (L' := [xR a, xI p1, xI y2, xI y3, xI 0]) rfl (e_iload dX0_heldWith_45 (i := 4) (x := 0) rfl (e_ifneF dX0_heldWith_47 (tgt := 69) rfl (by decide) k)))) ?_
        refine ev_st (pc' := 56) (L' := [xR a, xI p1, xI y2, xI y3, xI 0]) (st' := [xI y3, xI p1, xR (a + 4)]) (fun _ _ _ k => e_aload_n dX0_heldWith_50 rfl (i := 0) (x := a) rfl (e_getr dX0_heldWith_51 flX0_21 (kd0_0 h_a) rfl (rf0_0_1 h_a) (e_iload_n dX0_heldWith_54 rfl (i := 1) (x := p1) rfl (e_iload_n dX0_heldWith_55 rfl (i := 3) (x := y3) rfl k)))) ?_
        refine ev_callV (As := [xI p1, xI y3]) (st := []) (fun v4 => [xI v4]) dX0_heldWith_56 mlX0_193 (kd0_4 h_a) rfl rfl rfl rfl rfl rfl (c_X3_edgesBetween (d := d) (sb0_4_3 h_a) p1 y3) (fun _ => trivial) (fun _ => rfl) (fun v4 => ?_)
        refine ev_st (pc' := 66) (L' := [xR a, xI p1, xI y2, xI y3, xI 0]) (st' := [xI (b4and v4 (b4xor (R a 6) (-1)))]) (fun _ _ _ k => e_aload_n dX0_heldWith_59 rfl (i := 0) (x := a) rfl (e_geti dX0_heldWith_60 flX0_47 (kd0_0 h_a) (Or.inl rfl) (e_iconst dX0_heldWith_63 (k4 rfl) (e_ixor dX0_heldWith_64 (e_iand dX0_heldWith_65 k))))) ?_
        refine ev_br2 (P := (b4and v4 (b4xor (R a 6) (-1))) = 0) (pct := 75) (pcf := 69) (st' := []) (fun _ _ _ kt kf => e_ifeq dX0_heldWith_66 (tgt := 75) rfl kt kf) (fun h5 => ?_) (fun h5 => ?_)
        · refine ev_letx (fun x6 ex6 => ?_)
          refine ev_st (pc' := 78) (L' := [xR a, xI p1, xI y2, xI x6, xI 0]) (st' := []) (fun _ _ _ k => e_iinc dX0_heldWith_75 (i := 3) rfl (x := y3) rfl (y := x6) ex6 (L' := [xR a, xI p1, xI y2, xI x6, xI 0]) rfl k) ?_
          refine ev_st (pc' := 4) (L' := [xR a, xI p1, xI y2, xI x6, xU]) (st' := []) (fun _ _ _ k => e_goto dX0_heldWith_78 (tgt := 4) rfl (e_fg [4] k)) ?_
          exact ih y2 x6
        · refine ev_st (pc' := 74) (L' := [xR a, xI p1, xI y2, xI y3, xI 0]) (st' := [xI (b4or y2 (b4shl 1 y3))]) (fun _ _ _ k => e_iload_n dX0_heldWith_69 rfl (i := 2) (x := y2) rfl (e_iconst dX0_heldWith_70 (k4 rfl) (e_iload_n dX0_heldWith_71 rfl (i := 3) (x := y3) rfl (e_ishl dX0_heldWith_72 (e_ior dX0_heldWith_73 k))))) ?_
          refine ev_leti (fun x7 ex7 => ?_)
          refine ev_st (pc' := 75) (L' := [xR a, xI p1, xI x7, xI y3, xI 0]) (st' := []) (fun _ _ _ k => e_istore_n dX0_heldWith_74 rfl (i := 2) rfl (L' := [xR a, xI p1, xI x7, xI y3, xI 0]) rfl k) ?_
          refine ev_letx (fun x8 ex8 => ?_)
          refine ev_st (pc' := 78) (L' := [xR a, xI p1, xI x7, xI x8, xI 0]) (st' := []) (fun _ _ _ k => e_iinc dX0_heldWith_75 (i := 3) rfl (x := y3) rfl (y := x8) ex8 (L' := [xR a, xI p1, xI x7, xI x8, xI 0]) rfl k) ?_
          refine ev_st (pc' := 4) (L' := [xR a, xI p1, xI x7, xI x8, xU]) (st' := []) (fun _ _ _ k => e_goto dX0_heldWith_78 (tgt := 4) rfl (e_fg [4] k)) ?_
          exact ih x7 x8
      · refine ev_st (pc' := 27) (L' := [xR a, xI p1, xI y2, xI y3, xU]) (st' := [xI (R a 8), xI p1]) (fun _ _ _ k => e_iload_n dX0_heldWith_22 rfl (i := 1) (x := p1) rfl (e_aload_n dX0_heldWith_23 rfl (i := 0) (x := a) rfl (e_geti dX0_heldWith_24 flX0_53 (kd0_0 h_a) (Or.inl rfl) k))) ?_
        refine ev_br2 (P := (R a 8) ≤ p1) (pct := 42) (pcf := 30) (st' := []) (fun _ _ _ kt kf => e_cge dX0_heldWith_27 (tgt := 42) rfl kt kf) (fun h9 => ?_) (fun h9 => ?_)
        · refine ev_st (pc' := 50) (L' := [xR a, xI p1, xI y2, xI y3, xI 0]) (st' := []) (fun _ _ _ k => e_iconst dX0_heldWith_42 (k4 rfl) (e_istore dX0_heldWith_43 (i := 4) rfl (L' := [xR a, xI p1, xI y2, xI y3, xI 0]) rfl (e_iload dX0_heldWith_45 (i := 4) (x := 0) rfl (e_ifneF dX0_heldWith_47 (tgt := 69) rfl (by decide) k)))) ?_
          refine ev_st (pc' := 56) (L' := [xR a, xI p1, xI y2, xI y3, xI 0]) (st' := [xI y3, xI p1, xR (a + 4)]) (fun _ _ _ k => e_aload_n dX0_heldWith_50 rfl (i := 0) (x := a) rfl (e_getr dX0_heldWith_51 flX0_21 (kd0_0 h_a) rfl (rf0_0_1 h_a) (e_iload_n dX0_heldWith_54 rfl (i := 1) (x := p1) rfl (e_iload_n dX0_heldWith_55 rfl (i := 3) (x := y3) rfl k)))) ?_
          refine ev_callV (As := [xI p1, xI y3]) (st := []) (fun v10 => [xI v10]) dX0_heldWith_56 mlX0_193 (kd0_4 h_a) rfl rfl rfl rfl rfl rfl (c_X3_edgesBetween (d := d) (sb0_4_3 h_a) p1 y3) (fun _ => trivial) (fun _ => rfl) (fun v10 => ?_)
          refine ev_st (pc' := 66) (L' := [xR a, xI p1, xI y2, xI y3, xI 0]) (st' := [xI (b4and v10 (b4xor (R a 6) (-1)))]) (fun _ _ _ k => e_aload_n dX0_heldWith_59 rfl (i := 0) (x := a) rfl (e_geti dX0_heldWith_60 flX0_47 (kd0_0 h_a) (Or.inl rfl) (e_iconst dX0_heldWith_63 (k4 rfl) (e_ixor dX0_heldWith_64 (e_iand dX0_heldWith_65 k))))) ?_
          refine ev_br2 (P := (b4and v10 (b4xor (R a 6) (-1))) = 0) (pct := 75) (pcf := 69) (st' := []) (fun _ _ _ kt kf => e_ifeq dX0_heldWith_66 (tgt := 75) rfl kt kf) (fun h11 => ?_) (fun h11 => ?_)
          · refine ev_letx (fun x12 ex12 => ?_)
            refine ev_st (pc' := 78) (L' := [xR a, xI p1, xI y2, xI x12, xI 0]) (st' := []) (fun _ _ _ k => e_iinc dX0_heldWith_75 (i := 3) rfl (x := y3) rfl (y := x12) ex12 (L' := [xR a, xI p1, xI y2, xI x12, xI 0]) rfl k) ?_
            refine ev_st (pc' := 4) (L' := [xR a, xI p1, xI y2, xI x12, xU]) (st' := []) (fun _ _ _ k => e_goto dX0_heldWith_78 (tgt := 4) rfl (e_fg [4] k)) ?_
            exact ih y2 x12
          · refine ev_st (pc' := 74) (L' := [xR a, xI p1, xI y2, xI y3, xI 0]) (st' := [xI (b4or y2 (b4shl 1 y3))]) (fun _ _ _ k => e_iload_n dX0_heldWith_69 rfl (i := 2) (x := y2) rfl (e_iconst dX0_heldWith_70 (k4 rfl) (e_iload_n dX0_heldWith_71 rfl (i := 3) (x := y3) rfl (e_ishl dX0_heldWith_72 (e_ior dX0_heldWith_73 k))))) ?_
            refine ev_leti (fun x13 ex13 => ?_)
            refine ev_st (pc' := 75) (L' := [xR a, xI p1, xI x13, xI y3, xI 0]) (st' := []) (fun _ _ _ k => e_istore_n dX0_heldWith_74 rfl (i := 2) rfl (L' := [xR a, xI p1, xI x13, xI y3, xI 0]) rfl k) ?_
            refine ev_letx (fun x14 ex14 => ?_)
            refine ev_st (pc' := 78) (L' := [xR a, xI p1, xI x13, xI x14, xI 0]) (st' := []) (fun _ _ _ k => e_iinc dX0_heldWith_75 (i := 3) rfl (x := y3) rfl (y := x14) ex14 (L' := [xR a, xI p1, xI x13, xI x14, xI 0]) rfl k) ?_
            refine ev_st (pc' := 4) (L' := [xR a, xI p1, xI x13, xI x14, xU]) (st' := []) (fun _ _ _ k => e_goto dX0_heldWith_78 (tgt := 4) rfl (e_fg [4] k)) ?_
            exact ih x13 x14
        · refine ev_st (pc' := 35) (L' := [xR a, xI p1, xI y2, xI y3, xU]) (st' := [xI (R a 8), xI y3]) (fun _ _ _ k => e_iload_n dX0_heldWith_30 rfl (i := 3) (x := y3) rfl (e_aload_n dX0_heldWith_31 rfl (i := 0) (x := a) rfl (e_geti dX0_heldWith_32 flX0_53 (kd0_0 h_a) (Or.inl rfl) k))) ?_
          refine ev_br2 (P := (R a 8) ≤ y3) (pct := 42) (pcf := 38) (st' := []) (fun _ _ _ kt kf => e_cge dX0_heldWith_35 (tgt := 42) rfl kt kf) (fun h15 => ?_) (fun h15 => ?_)
          · refine ev_st (pc' := 50) (L' := [xR a, xI p1, xI y2, xI y3, xI 0]) (st' := []) (fun _ _ _ k => e_iconst dX0_heldWith_42 (k4 rfl) (e_istore dX0_heldWith_43 (i := 4) rfl (L' := [xR a, xI p1, xI y2, xI y3, xI 0]) rfl (e_iload dX0_heldWith_45 (i := 4) (x := 0) rfl (e_ifneF dX0_heldWith_47 (tgt := 69) rfl (by decide) k)))) ?_
            refine ev_st (pc' := 56) (L' := [xR a, xI p1, xI y2, xI y3, xI 0]) (st' := [xI y3, xI p1, xR (a + 4)]) (fun _ _ _ k => e_aload_n dX0_heldWith_50 rfl (i := 0) (x := a) rfl (e_getr dX0_heldWith_51 flX0_21 (kd0_0 h_a) rfl (rf0_0_1 h_a) (e_iload_n dX0_heldWith_54 rfl (i := 1) (x := p1) rfl (e_iload_n dX0_heldWith_55 rfl (i := 3) (x := y3) rfl k)))) ?_
            refine ev_callV (As := [xI p1, xI y3]) (st := []) (fun v16 => [xI v16]) dX0_heldWith_56 mlX0_193 (kd0_4 h_a) rfl rfl rfl rfl rfl rfl (c_X3_edgesBetween (d := d) (sb0_4_3 h_a) p1 y3) (fun _ => trivial) (fun _ => rfl) (fun v16 => ?_)
            refine ev_st (pc' := 66) (L' := [xR a, xI p1, xI y2, xI y3, xI 0]) (st' := [xI (b4and v16 (b4xor (R a 6) (-1)))]) (fun _ _ _ k => e_aload_n dX0_heldWith_59 rfl (i := 0) (x := a) rfl (e_geti dX0_heldWith_60 flX0_47 (kd0_0 h_a) (Or.inl rfl) (e_iconst dX0_heldWith_63 (k4 rfl) (e_ixor dX0_heldWith_64 (e_iand dX0_heldWith_65 k))))) ?_
            refine ev_br2 (P := (b4and v16 (b4xor (R a 6) (-1))) = 0) (pct := 75) (pcf := 69) (st' := []) (fun _ _ _ kt kf => e_ifeq dX0_heldWith_66 (tgt := 75) rfl kt kf) (fun h17 => ?_) (fun h17 => ?_)
            · refine ev_letx (fun x18 ex18 => ?_)
              refine ev_st (pc' := 78) (L' := [xR a, xI p1, xI y2, xI x18, xI 0]) (st' := []) (fun _ _ _ k => e_iinc dX0_heldWith_75 (i := 3) rfl (x := y3) rfl (y := x18) ex18 (L' := [xR a, xI p1, xI y2, xI x18, xI 0]) rfl k) ?_
              refine ev_st (pc' := 4) (L' := [xR a, xI p1, xI y2, xI x18, xU]) (st' := []) (fun _ _ _ k => e_goto dX0_heldWith_78 (tgt := 4) rfl (e_fg [4] k)) ?_
              exact ih y2 x18
            · refine ev_st (pc' := 74) (L' := [xR a, xI p1, xI y2, xI y3, xI 0]) (st' := [xI (b4or y2 (b4shl 1 y3))]) (fun _ _ _ k => e_iload_n dX0_heldWith_69 rfl (i := 2) (x := y2) rfl (e_iconst dX0_heldWith_70 (k4 rfl) (e_iload_n dX0_heldWith_71 rfl (i := 3) (x := y3) rfl (e_ishl dX0_heldWith_72 (e_ior dX0_heldWith_73 k))))) ?_
              refine ev_leti (fun x19 ex19 => ?_)
              refine ev_st (pc' := 75) (L' := [xR a, xI p1, xI x19, xI y3, xI 0]) (st' := []) (fun _ _ _ k => e_istore_n dX0_heldWith_74 rfl (i := 2) rfl (L' := [xR a, xI p1, xI x19, xI y3, xI 0]) rfl k) ?_
              refine ev_letx (fun x20 ex20 => ?_)
              refine ev_st (pc' := 78) (L' := [xR a, xI p1, xI x19, xI x20, xI 0]) (st' := []) (fun _ _ _ k => e_iinc dX0_heldWith_75 (i := 3) rfl (x := y3) rfl (y := x20) ex20 (L' := [xR a, xI p1, xI x19, xI x20, xI 0]) rfl k) ?_
              refine ev_st (pc' := 4) (L' := [xR a, xI p1, xI x19, xI x20, xU]) (st' := []) (fun _ _ _ k => e_goto dX0_heldWith_78 (tgt := 4) rfl (e_fg [4] k)) ?_
              exact ih x19 x20
          · refine ev_st (pc' := 69) (L' := [xR a, xI p1, xI y2, xI y3, xI 1]) (st' := []) (fun _ _ _ k => e_iconst dX0_heldWith_38 (k4 rfl) (e_goto dX0_heldWith_39 (tgt := 43) rfl (e_istore dX0_heldWith_43 (i := 4) rfl (L' := [xR a, xI p1, xI y2, xI y3, xI 1]) rfl (e_iload dX0_heldWith_45 (i := 4) (x := 1) rfl (e_ifneT dX0_heldWith_47 (tgt := 69) rfl (by decide) k))))) ?_
            refine ev_st (pc' := 74) (L' := [xR a, xI p1, xI y2, xI y3, xI 1]) (st' := [xI (b4or y2 (b4shl 1 y3))]) (fun _ _ _ k => e_iload_n dX0_heldWith_69 rfl (i := 2) (x := y2) rfl (e_iconst dX0_heldWith_70 (k4 rfl) (e_iload_n dX0_heldWith_71 rfl (i := 3) (x := y3) rfl (e_ishl dX0_heldWith_72 (e_ior dX0_heldWith_73 k))))) ?_
            refine ev_leti (fun x21 ex21 => ?_)
            refine ev_st (pc' := 75) (L' := [xR a, xI p1, xI x21, xI y3, xI 1]) (st' := []) (fun _ _ _ k => e_istore_n dX0_heldWith_74 rfl (i := 2) rfl (L' := [xR a, xI p1, xI x21, xI y3, xI 1]) rfl k) ?_
            refine ev_letx (fun x22 ex22 => ?_)
            refine ev_st (pc' := 78) (L' := [xR a, xI p1, xI x21, xI x22, xI 1]) (st' := []) (fun _ _ _ k => e_iinc dX0_heldWith_75 (i := 3) rfl (x := y3) rfl (y := x22) ex22 (L' := [xR a, xI p1, xI x21, xI x22, xI 1]) rfl k) ?_
            refine ev_st (pc' := 4) (L' := [xR a, xI p1, xI x21, xI x22, xU]) (st' := []) (fun _ _ _ k => e_goto dX0_heldWith_78 (tgt := 4) rfl (e_fg [4] k)) ?_
            exact ih x21 x22
set_option maxRecDepth 20000 in
set_option maxHeartbeats 4000000 in
theorem c_X0_heldWith {l : Launch} {g : xG} {d : Nat} {A : xA} {R : xN} {a : Nat} (h_a : sh 0 A a) (i0 : Int) : Ev l g (d + 2) mX0_heldWith 0 [xR a, xI i0, xU, xU, xU] [] A R (fun v : Int => some (xI v)) (fun _ => R) (f_X0_heldWith a i0 R) := by
  rw [f_X0_heldWith]
  refine ev_st (pc' := 4) (L' := [xR a, xI i0, xI 0, xI 0, xU]) (st' := []) (fun _ _ _ k => e_iconst dX0_heldWith_0 (k4 rfl) (e_istore_n dX0_heldWith_1 rfl (i := 2) rfl (L' := [xR a, xI i0, xI 0, xU, xU]) rfl (e_iconst dX0_heldWith_2 (k4 rfl) (e_istore_n dX0_heldWith_3 rfl (i := 3) rfl (L' := [xR a, xI i0, xI 0, xI 0, xU]) rfl k)))) ?_
  refine lc_X0_heldWith_4 h_a i0 R (fun z23 z24 => ?_) 6000 0 0
  exact ev_ret (e_iload_n dX0_heldWith_81 rfl (i := 2) (x := z23) rfl (e_iret dX0_heldWith_82))
def lp_X0_pieceWith_26 (a : Nat) (p3 : Int) (p4 : Int) (R : xN) : Nat → Int → Int → (Int → Int → Option (Int)) → Option (Int)
  | 0, _, _, _ => none
  | n + 1, y2, y5, X =>
    (f_X3_depth (a + 4) R).bind (fun v4 =>
    if v4 ≤ y5 then
    X y2 y5
    else
    (f_X9_isInSet y5 y2 R).bind (fun v6 =>
    if v6 = true then
    (f_X0_heldWith a y5 R).bind (fun v8 =>
    xlet (b4or y2 v8) (fun x9 =>
    xlet (w4 (y5 + 1)) (fun x10 =>
    lp_X0_pieceWith_26 a p3 p4 R n x9 x10 X)))
    else
    xlet (b4or y2 0) (fun x11 =>
    xlet (w4 (y5 + 1)) (fun x12 =>
    lp_X0_pieceWith_26 a p3 p4 R n x11 x12 X))))
def lp_X0_pieceWith_9 (a : Nat) (R : xN) : Nat → Int → Int → Int → (Int → Int → Int → Option (Int)) → Option (Int)
  | 0, _, _, _, _ => none
  | n + 1, y2, y3, y4, X =>
    if 16 < y4 then
    X y2 y3 y4
    else
    if y2 = y3 then
    X y2 y3 y4
    else
    lp_X0_pieceWith_26 a y2 y4 R 6000 y2 0 (fun z13 z14 =>
    xlet (w4 (y4 + 1)) (fun x15 =>
    lp_X0_pieceWith_9 a R n z13 y2 x15 X))
def f_X0_pieceWith (a : Nat) (i0 : Int) (R : xN) : Option (Int) :=
  xlet (b4shl 1 i0) (fun x1 =>
  lp_X0_pieceWith_9 a R 6000 x1 0 0 (fun z16 z17 z18 =>
  some z16))
set_option maxRecDepth 20000 in
set_option maxHeartbeats 4000000 in
theorem lc_X0_pieceWith_26 {l : Launch} {g : xG} {d : Nat} {A : xA} {a : Nat} (h_a : sh 0 A a) (p3 : Int) (p4 : Int) (R : xN) {X : Int → Int → Option (Int)} (hX : ∀ (y2 : Int) (y5 : Int), Ev l g (d + 3) mX0_pieceWith 66 [xR a, xU, xI y2, xI p3, xI p4, xU] [] A R (fun v : Int => some (xI v)) (fun _ => R) (X y2 y5)) (n : Nat) (y2 : Int) (y5 : Int) : Ev l g (d + 3) mX0_pieceWith 26 [xR a, xU, xI y2, xI p3, xI p4, xI y5] [] A R (fun v : Int => some (xI v)) (fun _ => R) (lp_X0_pieceWith_26 a p3 p4 R n y2 y5 X) := by
  induction n generalizing y2 y5 with
  | zero => exact ev_none
  | succ n ih =>
    rw [lp_X0_pieceWith_26]
    refine ev_st (pc' := 32) (L' := [xR a, xU, xI y2, xI p3, xI p4, xI y5]) (st' := [xR (a + 4), xI y5]) (fun _ _ _ k => e_iload dX0_pieceWith_26 (i := 5) (x := y5) rfl (e_aload_n dX0_pieceWith_28 rfl (i := 0) (x := a) rfl (e_getr dX0_pieceWith_29 flX0_21 (kd0_0 h_a) rfl (rf0_0_1 h_a) k))) ?_
    refine ev_callV (As := []) (st := [xI y5]) (fun v4 => [xI v4, xI y5]) dX0_pieceWith_32 mlX0_107 (kd0_4 h_a) rfl rfl rfl rfl rfl rfl (c_X3_depth (d := d + 2) (sb0_4_3 h_a)) (fun _ => trivial) (fun _ => rfl) (fun v4 => ?_)
    refine ev_br2 (P := v4 ≤ y5) (pct := 66) (pcf := 38) (st' := []) (fun _ _ _ kt kf => e_cge dX0_pieceWith_35 (tgt := 66) rfl kt kf) (fun h5 => ?_) (fun h5 => ?_)
    · refine ev_st (pc' := 66) (L' := [xR a, xU, xI y2, xI p3, xI p4, xU]) (st' := []) (fun _ _ _ k => e_fg [5] k) ?_
      exact hX y2 y5
    · refine ev_st (pc' := 42) (L' := [xR a, xU, xI y2, xI p3, xI p4, xI y5]) (st' := [xI y2, xI y5, xI y2]) (fun _ _ _ k => e_iload_n dX0_pieceWith_38 rfl (i := 2) (x := y2) rfl (e_iload dX0_pieceWith_39 (i := 5) (x := y5) rfl (e_iload_n dX0_pieceWith_41 rfl (i := 2) (x := y2) rfl k))) ?_
      refine ev_callN (As := [xI y5, xI y2]) (st := [xI y2]) (fun v6 => [xI (xz v6), xI y2]) dX0_pieceWith_42 mlX0_160 rfl rfl rfl rfl rfl rfl (c_X9_isInSet (d := d + 2) y5 y2) (fun _ => xz01 _) (fun _ => rfl) (fun v6 => ?_)
      refine ev_br2 (P := v6 = true) (pct := 48) (pcf := 57) (st' := [xI y2]) (fun _ _ _ kt kf => e_ifeqz dX0_pieceWith_45 (tgt := 57) rfl kt kf) (fun h7 => ?_) (fun h7 => ?_)
      · refine ev_st (pc' := 51) (L' := [xR a, xU, xI y2, xI p3, xI p4, xI y5]) (st' := [xI y5, xR a, xI y2]) (fun _ _ _ k => e_aload_n dX0_pieceWith_48 rfl (i := 0) (x := a) rfl (e_iload dX0_pieceWith_49 (i := 5) (x := y5) rfl k)) ?_
        refine ev_callV (As := [xI y5]) (st := [xI y2]) (fun v8 => [xI v8, xI y2]) dX0_pieceWith_51 mlX0_215 (kd0_0 h_a) rfl rfl rfl rfl rfl rfl (c_X0_heldWith (d := d) h_a y5) (fun _ => trivial) (fun _ => rfl) (fun v8 => ?_)
        refine ev_st (pc' := 59) (L' := [xR a, xU, xI y2, xI p3, xI p4, xI y5]) (st' := [xI (b4or y2 v8)]) (fun _ _ _ k => e_goto dX0_pieceWith_54 (tgt := 58) rfl (e_ior dX0_pieceWith_58 k)) ?_
        refine ev_leti (fun x9 ex9 => ?_)
        refine ev_st (pc' := 60) (L' := [xR a, xU, xI x9, xI p3, xI p4, xI y5]) (st' := []) (fun _ _ _ k => e_istore_n dX0_pieceWith_59 rfl (i := 2) rfl (L' := [xR a, xU, xI x9, xI p3, xI p4, xI y5]) rfl k) ?_
        refine ev_letx (fun x10 ex10 => ?_)
        refine ev_st (pc' := 63) (L' := [xR a, xU, xI x9, xI p3, xI p4, xI x10]) (st' := []) (fun _ _ _ k => e_iinc dX0_pieceWith_60 (i := 5) rfl (x := y5) rfl (y := x10) ex10 (L' := [xR a, xU, xI x9, xI p3, xI p4, xI x10]) rfl k) ?_
        refine ev_st (pc' := 26) (L' := [xR a, xU, xI x9, xI p3, xI p4, xI x10]) (st' := []) (fun _ _ _ k => e_goto dX0_pieceWith_63 (tgt := 26) rfl k) ?_
        exact ih x9 x10
      · refine ev_st (pc' := 59) (L' := [xR a, xU, xI y2, xI p3, xI p4, xI y5]) (st' := [xI (b4or y2 0)]) (fun _ _ _ k => e_iconst dX0_pieceWith_57 (k4 rfl) (e_ior dX0_pieceWith_58 k)) ?_
        refine ev_leti (fun x11 ex11 => ?_)
        refine ev_st (pc' := 60) (L' := [xR a, xU, xI x11, xI p3, xI p4, xI y5]) (st' := []) (fun _ _ _ k => e_istore_n dX0_pieceWith_59 rfl (i := 2) rfl (L' := [xR a, xU, xI x11, xI p3, xI p4, xI y5]) rfl k) ?_
        refine ev_letx (fun x12 ex12 => ?_)
        refine ev_st (pc' := 63) (L' := [xR a, xU, xI x11, xI p3, xI p4, xI x12]) (st' := []) (fun _ _ _ k => e_iinc dX0_pieceWith_60 (i := 5) rfl (x := y5) rfl (y := x12) ex12 (L' := [xR a, xU, xI x11, xI p3, xI p4, xI x12]) rfl k) ?_
        refine ev_st (pc' := 26) (L' := [xR a, xU, xI x11, xI p3, xI p4, xI x12]) (st' := []) (fun _ _ _ k => e_goto dX0_pieceWith_63 (tgt := 26) rfl k) ?_
        exact ih x11 x12
set_option maxRecDepth 20000 in
set_option maxHeartbeats 4000000 in
theorem lc_X0_pieceWith_9 {l : Launch} {g : xG} {d : Nat} {A : xA} {a : Nat} (h_a : sh 0 A a) (R : xN) {X : Int → Int → Int → Option (Int)} (hX : ∀ (y2 : Int) (y3 : Int) (y4 : Int), Ev l g (d + 3) mX0_pieceWith 72 [xU, xU, xI y2, xU, xU, xU] [] A R (fun v : Int => some (xI v)) (fun _ => R) (X y2 y3 y4)) (n : Nat) (y2 : Int) (y3 : Int) (y4 : Int) : Ev l g (d + 3) mX0_pieceWith 9 [xR a, xU, xI y2, xI y3, xI y4, xU] [] A R (fun v : Int => some (xI v)) (fun _ => R) (lp_X0_pieceWith_9 a R n y2 y3 y4 X) := by
  induction n generalizing y2 y3 y4 with
  | zero => exact ev_none
  | succ n ih =>
    rw [lp_X0_pieceWith_9]
    refine ev_st (pc' := 13) (L' := [xR a, xU, xI y2, xI y3, xI y4, xU]) (st' := [xI 16, xI y4]) (fun _ _ _ k => e_iload dX0_pieceWith_9 (i := 4) (x := y4) rfl (e_bipush dX0_pieceWith_11 rfl (k4 rfl) k)) ?_
    refine ev_br2 (P := 16 < y4) (pct := 72) (pcf := 16) (st' := []) (fun _ _ _ kt kf => e_cgt dX0_pieceWith_13 (tgt := 72) rfl kt kf) (fun h2 => ?_) (fun h2 => ?_)
    · refine ev_st (pc' := 72) (L' := [xU, xU, xI y2, xU, xU, xU]) (st' := []) (fun _ _ _ k => e_fg [0, 3, 4] k) ?_
      exact hX y2 y3 y4
    · refine ev_st (pc' := 18) (L' := [xR a, xU, xI y2, xI y3, xI y4, xU]) (st' := [xI y3, xI y2]) (fun _ _ _ k => e_iload_n dX0_pieceWith_16 rfl (i := 2) (x := y2) rfl (e_iload_n dX0_pieceWith_17 rfl (i := 3) (x := y3) rfl k)) ?_
      refine ev_br2 (P := y2 = y3) (pct := 72) (pcf := 21) (st' := []) (fun _ _ _ kt kf => e_ceq dX0_pieceWith_18 (tgt := 72) rfl kt kf) (fun h3 => ?_) (fun h3 => ?_)
      · refine ev_st (pc' := 72) (L' := [xU, xU, xI y2, xU, xU, xU]) (st' := []) (fun _ _ _ k => e_fg [0, 3, 4] k) ?_
        exact hX y2 y3 y4
      · refine ev_st (pc' := 26) (L' := [xR a, xU, xI y2, xI y2, xI y4, xI 0]) (st' := []) (fun _ _ _ k => e_iload_n dX0_pieceWith_21 rfl (i := 2) (x := y2) rfl (e_istore_n dX0_pieceWith_22 rfl (i := 3) rfl (L' := [xR a, xU, xI y2, xI y2, xI y4, xU]) rfl (e_iconst dX0_pieceWith_23 (k4 rfl) (e_istore dX0_pieceWith_24 (i := 5) rfl (L' := [xR a, xU, xI y2, xI y2, xI y4, xI 0]) rfl k)))) ?_
        refine lc_X0_pieceWith_26 h_a y2 y4 R (fun z13 z14 => ?_) 6000 y2 0
        refine ev_letx (fun x15 ex15 => ?_)
        refine ev_st (pc' := 69) (L' := [xR a, xU, xI z13, xI y2, xI x15, xU]) (st' := []) (fun _ _ _ k => e_iinc dX0_pieceWith_66 (i := 4) rfl (x := y4) rfl (y := x15) ex15 (L' := [xR a, xU, xI z13, xI y2, xI x15, xU]) rfl k) ?_
        refine ev_st (pc' := 9) (L' := [xR a, xU, xI z13, xI y2, xI x15, xU]) (st' := []) (fun _ _ _ k => e_goto dX0_pieceWith_69 (tgt := 9) rfl k) ?_
        exact ih z13 y2 x15
set_option maxRecDepth 20000 in
set_option maxHeartbeats 4000000 in
theorem c_X0_pieceWith {l : Launch} {g : xG} {d : Nat} {A : xA} {R : xN} {a : Nat} (h_a : sh 0 A a) (i0 : Int) : Ev l g (d + 3) mX0_pieceWith 0 [xR a, xI i0, xU, xU, xU, xU] [] A R (fun v : Int => some (xI v)) (fun _ => R) (f_X0_pieceWith a i0 R) := by
  rw [f_X0_pieceWith]
  refine ev_st (pc' := 3) (L' := [xR a, xI i0, xU, xU, xU, xU]) (st' := [xI (b4shl 1 i0)]) (fun _ _ _ k => e_iconst dX0_pieceWith_0 (k4 rfl) (e_iload_n dX0_pieceWith_1 rfl (i := 1) (x := i0) rfl (e_ishl dX0_pieceWith_2 k))) ?_
  refine ev_leti (fun x1 ex1 => ?_)
  refine ev_st (pc' := 4) (L' := [xR a, xI i0, xI x1, xU, xU, xU]) (st' := []) (fun _ _ _ k => e_istore_n dX0_pieceWith_3 rfl (i := 2) rfl (L' := [xR a, xI i0, xI x1, xU, xU, xU]) rfl k) ?_
  refine ev_st (pc' := 9) (L' := [xR a, xU, xI x1, xI 0, xI 0, xU]) (st' := []) (fun _ _ _ k => e_iconst dX0_pieceWith_4 (k4 rfl) (e_istore_n dX0_pieceWith_5 rfl (i := 3) rfl (L' := [xR a, xI i0, xI x1, xI 0, xU, xU]) rfl (e_iconst dX0_pieceWith_6 (k4 rfl) (e_istore dX0_pieceWith_7 (i := 4) rfl (L' := [xR a, xI i0, xI x1, xI 0, xI 0, xU]) rfl (e_fg [1] k))))) ?_
  refine lc_X0_pieceWith_9 h_a R (fun z16 z17 z18 => ?_) 6000 x1 0 0
  exact ev_ret (e_iload_n dX0_pieceWith_72 rfl (i := 2) (x := z16) rfl (e_iret dX0_pieceWith_73))
def lp_X0_countPieces_6 (a : Nat) (R : xN) : Nat → Int → Int → Int → (Int → Int → Int → Option (Int)) → Option (Int)
  | 0, _, _, _, _ => none
  | n + 1, y1, y2, y3, X =>
    (f_X3_depth (a + 4) R).bind (fun v1 =>
    if v1 ≤ y3 then
    X y1 y2 y3
    else
    (f_X9_isInSet y3 y2 R).bind (fun v3 =>
    if v3 = true then
    xlet (w4 (y3 + 1)) (fun x5 =>
    lp_X0_countPieces_6 a R n y1 y2 x5 X)
    else
    (f_X0_pieceWith a y3 R).bind (fun v6 =>
    xlet (b4or y2 v6) (fun x7 =>
    xlet (w4 (y1 + 1)) (fun x8 =>
    xlet (w4 (y3 + 1)) (fun x9 =>
    lp_X0_countPieces_6 a R n x8 x7 x9 X))))))
def f_X0_countPieces (a : Nat) (R : xN) : Option (Int) :=
  lp_X0_countPieces_6 a R 6000 0 0 0 (fun z10 z11 z12 =>
  some z10)
set_option maxRecDepth 20000 in
set_option maxHeartbeats 4000000 in
theorem lc_X0_countPieces_6 {l : Launch} {g : xG} {d : Nat} {A : xA} {a : Nat} (h_a : sh 0 A a) (R : xN) {X : Int → Int → Int → Option (Int)} (hX : ∀ (y1 : Int) (y2 : Int) (y3 : Int), Ev l g (d + 4) mX0_countPieces 42 [xU, xI y1, xU, xU] [] A R (fun v : Int => some (xI v)) (fun _ => R) (X y1 y2 y3)) (n : Nat) (y1 : Int) (y2 : Int) (y3 : Int) : Ev l g (d + 4) mX0_countPieces 6 [xR a, xI y1, xI y2, xI y3] [] A R (fun v : Int => some (xI v)) (fun _ => R) (lp_X0_countPieces_6 a R n y1 y2 y3 X) := by
  induction n generalizing y1 y2 y3 with
  | zero => exact ev_none
  | succ n ih =>
    rw [lp_X0_countPieces_6]
    refine ev_st (pc' := 11) (L' := [xR a, xI y1, xI y2, xI y3]) (st' := [xR (a + 4), xI y3]) (fun _ _ _ k => e_iload_n dX0_countPieces_6 rfl (i := 3) (x := y3) rfl (e_aload_n dX0_countPieces_7 rfl (i := 0) (x := a) rfl (e_getr dX0_countPieces_8 flX0_21 (kd0_0 h_a) rfl (rf0_0_1 h_a) k))) ?_
    refine ev_callV (As := []) (st := [xI y3]) (fun v1 => [xI v1, xI y3]) dX0_countPieces_11 mlX0_107 (kd0_4 h_a) rfl rfl rfl rfl rfl rfl (c_X3_depth (d := d + 3) (sb0_4_3 h_a)) (fun _ => trivial) (fun _ => rfl) (fun v1 => ?_)
    refine ev_br2 (P := v1 ≤ y3) (pct := 42) (pcf := 17) (st' := []) (fun _ _ _ kt kf => e_cge dX0_countPieces_14 (tgt := 42) rfl kt kf) (fun h2 => ?_) (fun h2 => ?_)
    · refine ev_st (pc' := 42) (L' := [xU, xI y1, xU, xU]) (st' := []) (fun _ _ _ k => e_fg [0, 2, 3] k) ?_
      exact hX y1 y2 y3
    · refine ev_st (pc' := 19) (L' := [xR a, xI y1, xI y2, xI y3]) (st' := [xI y2, xI y3]) (fun _ _ _ k => e_iload_n dX0_countPieces_17 rfl (i := 3) (x := y3) rfl (e_iload_n dX0_countPieces_18 rfl (i := 2) (x := y2) rfl k)) ?_
      refine ev_callN (As := [xI y3, xI y2]) (st := []) (fun v3 => [xI (xz v3)]) dX0_countPieces_19 mlX0_160 rfl rfl rfl rfl rfl rfl (c_X9_isInSet (d := d + 3) y3 y2) (fun _ => xz01 _) (fun _ => rfl) (fun v3 => ?_)
      refine ev_br2 (P := v3 = true) (pct := 36) (pcf := 25) (st' := []) (fun _ _ _ kt kf => e_ifnez dX0_countPieces_22 (tgt := 36) rfl kt kf) (fun h4 => ?_) (fun h4 => ?_)
      · refine ev_letx (fun x5 ex5 => ?_)
        refine ev_st (pc' := 39) (L' := [xR a, xI y1, xI y2, xI x5]) (st' := []) (fun _ _ _ k => e_iinc dX0_countPieces_36 (i := 3) rfl (x := y3) rfl (y := x5) ex5 (L' := [xR a, xI y1, xI y2, xI x5]) rfl k) ?_
        refine ev_st (pc' := 6) (L' := [xR a, xI y1, xI y2, xI x5]) (st' := []) (fun _ _ _ k => e_goto dX0_countPieces_39 (tgt := 6) rfl k) ?_
        exact ih y1 y2 x5
      · refine ev_st (pc' := 28) (L' := [xR a, xI y1, xI y2, xI y3]) (st' := [xI y3, xR a, xI y2]) (fun _ _ _ k => e_iload_n dX0_countPieces_25 rfl (i := 2) (x := y2) rfl (e_aload_n dX0_countPieces_26 rfl (i := 0) (x := a) rfl (e_iload_n dX0_countPieces_27 rfl (i := 3) (x := y3) rfl k))) ?_
        refine ev_callV (As := [xI y3]) (st := [xI y2]) (fun v6 => [xI v6, xI y2]) dX0_countPieces_28 mlX0_212 (kd0_0 h_a) rfl rfl rfl rfl rfl rfl (c_X0_pieceWith (d := d) h_a y3) (fun _ => trivial) (fun _ => rfl) (fun v6 => ?_)
        refine ev_st (pc' := 32) (L' := [xR a, xI y1, xI y2, xI y3]) (st' := [xI (b4or y2 v6)]) (fun _ _ _ k => e_ior dX0_countPieces_31 k) ?_
        refine ev_leti (fun x7 ex7 => ?_)
        refine ev_st (pc' := 33) (L' := [xR a, xI y1, xI x7, xI y3]) (st' := []) (fun _ _ _ k => e_istore_n dX0_countPieces_32 rfl (i := 2) rfl (L' := [xR a, xI y1, xI x7, xI y3]) rfl k) ?_
        refine ev_letx (fun x8 ex8 => ?_)
        refine ev_st (pc' := 36) (L' := [xR a, xI x8, xI x7, xI y3]) (st' := []) (fun _ _ _ k => e_iinc dX0_countPieces_33 (i := 1) rfl (x := y1) rfl (y := x8) ex8 (L' := [xR a, xI x8, xI x7, xI y3]) rfl k) ?_
        refine ev_letx (fun x9 ex9 => ?_)
        refine ev_st (pc' := 39) (L' := [xR a, xI x8, xI x7, xI x9]) (st' := []) (fun _ _ _ k => e_iinc dX0_countPieces_36 (i := 3) rfl (x := y3) rfl (y := x9) ex9 (L' := [xR a, xI x8, xI x7, xI x9]) rfl k) ?_
        refine ev_st (pc' := 6) (L' := [xR a, xI x8, xI x7, xI x9]) (st' := []) (fun _ _ _ k => e_goto dX0_countPieces_39 (tgt := 6) rfl k) ?_
        exact ih x8 x7 x9
set_option maxRecDepth 20000 in
set_option maxHeartbeats 4000000 in
theorem c_X0_countPieces {l : Launch} {g : xG} {d : Nat} {A : xA} {R : xN} {a : Nat} (h_a : sh 0 A a)  : Ev l g (d + 4) mX0_countPieces 0 [xR a, xU, xU, xU] [] A R (fun v : Int => some (xI v)) (fun _ => R) (f_X0_countPieces a R) := by
  rw [f_X0_countPieces]
  refine ev_st (pc' := 6) (L' := [xR a, xI 0, xI 0, xI 0]) (st' := []) (fun _ _ _ k => e_iconst dX0_countPieces_0 (k4 rfl) (e_istore_n dX0_countPieces_1 rfl (i := 1) rfl (L' := [xR a, xI 0, xU, xU]) rfl (e_iconst dX0_countPieces_2 (k4 rfl) (e_istore_n dX0_countPieces_3 rfl (i := 2) rfl (L' := [xR a, xI 0, xI 0, xU]) rfl (e_iconst dX0_countPieces_4 (k4 rfl) (e_istore_n dX0_countPieces_5 rfl (i := 3) rfl (L' := [xR a, xI 0, xI 0, xI 0]) rfl k)))))) ?_
  refine lc_X0_countPieces_6 h_a R (fun z10 z11 z12 => ?_) 6000 0 0 0
  exact ev_ret (e_iload_n dX0_countPieces_42 rfl (i := 1) (x := z10) rfl (e_iret dX0_countPieces_43))
def lp_X0_showsAllSights_2 (a : Nat) (b : Nat) (R : xN) : Nat → Int → (Int → Option (Bool)) → Option (Bool)
  | 0, _, _ => none
  | n + 1, y2, X =>
    if (R (a + 7) 3) ≤ y2 then
    X y2
    else
    if 8 ≤ y2 then
    X y2
    else
    if 0 ≤ y2 ∧ y2 < 8 then
    xlet (R (a + 8) (y2).toNat) (fun x4 =>
    if 0 ≤ y2 ∧ y2 < 8 then
    if (R (a + 10) (y2).toNat) = 0 then
    (f_X0_numberOn a b x4 R).bind (fun v7 =>
    if 0 ≤ y2 ∧ y2 < 8 then
    if v7 = (R (a + 9) (y2).toNat) then
    (f_X0_isUpright a b x4 R).bind (fun v10 =>
    if (xz v10) = 1 then
    xlet (w4 (y2 + 1)) (fun x12 =>
    lp_X0_showsAllSights_2 a b R n x12 X)
    else
    some false)
    else
    some false
    else none)
    else
    (f_X0_numberOn a b x4 R).bind (fun v13 =>
    if 0 ≤ y2 ∧ y2 < 8 then
    if v13 = (R (a + 9) (y2).toNat) then
    (f_X0_isUpright a b x4 R).bind (fun v16 =>
    if (xz v16) = 0 then
    xlet (w4 (y2 + 1)) (fun x18 =>
    lp_X0_showsAllSights_2 a b R n x18 X)
    else
    some false)
    else
    some false
    else none)
    else none)
    else none
def f_X0_showsAllSights (a : Nat) (b : Nat) (R : xN) : Option (Bool) :=
  lp_X0_showsAllSights_2 a b R 6000 0 (fun z19 =>
  some true)
set_option maxRecDepth 20000 in
set_option maxHeartbeats 4000000 in
theorem lc_X0_showsAllSights_2 {l : Launch} {g : xG} {d : Nat} {A : xA} {a : Nat} {b : Nat} (h_a : sh 0 A a) (h_b : sh 3 A b) (R : xN) {X : Int → Option (Bool)} (hX : ∀ (y2 : Int), Ev l g (d + 4) mX0_showsAllSights 85 [xU, xU, xU, xU, xU] [] A R (fun v : Bool => some (xI (xz v))) (fun _ => R) (X y2)) (n : Nat) (y2 : Int) : Ev l g (d + 4) mX0_showsAllSights 2 [xR a, xR b, xI y2, xU, xU] [] A R (fun v : Bool => some (xI (xz v))) (fun _ => R) (lp_X0_showsAllSights_2 a b R n y2 X) := by
  induction n generalizing y2 with
  | zero => exact ev_none
  | succ n ih =>
    rw [lp_X0_showsAllSights_2]
    refine ev_st (pc' := 10) (L' := [xR a, xR b, xI y2, xU, xU]) (st' := [xI (R (a + 7) 3), xI y2]) (fun _ _ _ k => e_iload_n dX0_showsAllSights_2 rfl (i := 2) (x := y2) rfl (e_aload_n dX0_showsAllSights_3 rfl (i := 0) (x := a) rfl (e_getr dX0_showsAllSights_4 flX0_28 (kd0_0 h_a) rfl (rf0_0_2 h_a) (e_geti dX0_showsAllSights_7 flX0_218 (kd0_7 h_a) (Or.inl rfl) k)))) ?_
    refine ev_br2 (P := (R (a + 7) 3) ≤ y2) (pct := 85) (pcf := 13) (st' := []) (fun _ _ _ kt kf => e_cge dX0_showsAllSights_10 (tgt := 85) rfl kt kf) (fun h1 => ?_) (fun h1 => ?_)
    · refine ev_st (pc' := 85) (L' := [xU, xU, xU, xU, xU]) (st' := []) (fun _ _ _ k => e_fg [0, 1, 2] k) ?_
      exact hX y2
    · refine ev_st (pc' := 16) (L' := [xR a, xR b, xI y2, xU, xU]) (st' := [xI 8, xI y2]) (fun _ _ _ k => e_iload_n dX0_showsAllSights_13 rfl (i := 2) (x := y2) rfl (e_bipush dX0_showsAllSights_14 rfl (k4 rfl) k)) ?_
      refine ev_br2 (P := 8 ≤ y2) (pct := 85) (pcf := 19) (st' := []) (fun _ _ _ kt kf => e_cge dX0_showsAllSights_16 (tgt := 85) rfl kt kf) (fun h2 => ?_) (fun h2 => ?_)
      · refine ev_st (pc' := 85) (L' := [xU, xU, xU, xU, xU]) (st' := []) (fun _ _ _ k => e_fg [0, 1, 2] k) ?_
        exact hX y2
      · refine ev_st (pc' := 27) (L' := [xR a, xR b, xI y2, xU, xU]) (st' := [xI y2, xR (a + 8)]) (fun _ _ _ k => e_aload_n dX0_showsAllSights_19 rfl (i := 0) (x := a) rfl (e_getr dX0_showsAllSights_20 flX0_28 (kd0_0 h_a) rfl (rf0_0_2 h_a) (e_getrN dX0_showsAllSights_23 flX0_221 (kd0_7 h_a) rfl (rf0_7_0 h_a) (e_iload_n dX0_showsAllSights_26 rfl (i := 2) (x := y2) rfl k)))) ?_
        refine ev_chk (fun h3 => ?_)
        refine ev_st (pc' := 28) (L' := [xR a, xR b, xI y2, xU, xU]) (st' := [xI (R (a + 8) (y2).toNat)]) (fun _ _ _ k => e_iald dX0_showsAllSights_27 (kd0_8 h_a) h3.1 h3.2 k) ?_
        refine ev_leti (fun x4 ex4 => ?_)
        refine ev_st (pc' := 29) (L' := [xR a, xR b, xI y2, xI x4, xU]) (st' := []) (fun _ _ _ k => e_istore_n dX0_showsAllSights_28 rfl (i := 3) rfl (L' := [xR a, xR b, xI y2, xI x4, xU]) rfl k) ?_
        refine ev_st (pc' := 37) (L' := [xR a, xR b, xI y2, xI x4, xU]) (st' := [xI y2, xR (a + 10)]) (fun _ _ _ k => e_aload_n dX0_showsAllSights_29 rfl (i := 0) (x := a) rfl (e_getr dX0_showsAllSights_30 flX0_28 (kd0_0 h_a) rfl (rf0_0_2 h_a) (e_getrN dX0_showsAllSights_33 flX0_224 (kd0_7 h_a) rfl (rf0_7_2 h_a) (e_iload_n dX0_showsAllSights_36 rfl (i := 2) (x := y2) rfl k)))) ?_
        refine ev_chk (fun h5 => ?_)
        refine ev_st (pc' := 38) (L' := [xR a, xR b, xI y2, xI x4, xU]) (st' := [xI (R (a + 10) (y2).toNat)]) (fun _ _ _ k => e_iald dX0_showsAllSights_37 (kd0_10 h_a) h5.1 h5.2 k) ?_
        refine ev_br2 (P := (R (a + 10) (y2).toNat) = 0) (pct := 41) (pcf := 45) (st' := []) (fun _ _ _ kt kf => e_ifne dX0_showsAllSights_38 (tgt := 45) rfl kt kf) (fun h6 => ?_) (fun h6 => ?_)
        · refine ev_st (pc' := 51) (L' := [xR a, xR b, xI y2, xI x4, xI 1]) (st' := [xI x4, xR b, xR a]) (fun _ _ _ k => e_iconst dX0_showsAllSights_41 (k4 rfl) (e_goto dX0_showsAllSights_42 (tgt := 46) rfl (e_istore dX0_showsAllSights_46 (i := 4) rfl (L' := [xR a, xR b, xI y2, xI x4, xI 1]) rfl (e_aload_n dX0_showsAllSights_48 rfl (i := 0) (x := a) rfl (e_aload_n dX0_showsAllSights_49 rfl (i := 1) (x := b) rfl (e_iload_n dX0_showsAllSights_50 rfl (i := 3) (x := x4) rfl k)))))) ?_
          refine ev_callV (As := [xR b, xI x4]) (st := []) (fun v7 => [xI v7]) dX0_showsAllSights_51 mlX0_205 (kd0_0 h_a) rfl rfl rfl rfl rfl rfl (c_X0_numberOn (d := d + 1) h_a h_b x4) (fun _ => trivial) (fun _ => rfl) (fun v7 => ?_)
          refine ev_st (pc' := 62) (L' := [xR a, xR b, xI y2, xI x4, xI 1]) (st' := [xI y2, xR (a + 9), xI v7]) (fun _ _ _ k => e_aload_n dX0_showsAllSights_54 rfl (i := 0) (x := a) rfl (e_getr dX0_showsAllSights_55 flX0_28 (kd0_0 h_a) rfl (rf0_0_2 h_a) (e_getrN dX0_showsAllSights_58 flX0_227 (kd0_7 h_a) rfl (rf0_7_1 h_a) (e_iload_n dX0_showsAllSights_61 rfl (i := 2) (x := y2) rfl k)))) ?_
          refine ev_chk (fun h8 => ?_)
          refine ev_st (pc' := 63) (L' := [xR a, xR b, xI y2, xI x4, xI 1]) (st' := [xI (R (a + 9) (y2).toNat), xI v7]) (fun _ _ _ k => e_iald dX0_showsAllSights_62 (kd0_9 h_a) h8.1 h8.2 k) ?_
          refine ev_br2 (P := v7 = (R (a + 9) (y2).toNat)) (pct := 66) (pcf := 77) (st' := []) (fun _ _ _ kt kf => e_cne dX0_showsAllSights_63 (tgt := 77) rfl kt kf) (fun h9 => ?_) (fun h9 => ?_)
          · refine ev_st (pc' := 69) (L' := [xR a, xR b, xI y2, xI x4, xI 1]) (st' := [xI x4, xR b, xR a]) (fun _ _ _ k => e_aload_n dX0_showsAllSights_66 rfl (i := 0) (x := a) rfl (e_aload_n dX0_showsAllSights_67 rfl (i := 1) (x := b) rfl (e_iload_n dX0_showsAllSights_68 rfl (i := 3) (x := x4) rfl k))) ?_
            refine ev_callV (As := [xR b, xI x4]) (st := []) (fun v10 => [xI (xz v10)]) dX0_showsAllSights_69 mlX0_208 (kd0_0 h_a) rfl rfl rfl rfl rfl rfl (c_X0_isUpright (d := d) h_a h_b x4) (fun _ => xz01 _) (fun _ => rfl) (fun v10 => ?_)
            refine ev_st (pc' := 74) (L' := [xR a, xR b, xI y2, xI x4, xI 1]) (st' := [xI 1, xI (xz v10)]) (fun _ _ _ k => e_iload dX0_showsAllSights_72 (i := 4) (x := 1) rfl k) ?_
            refine ev_br2 (P := (xz v10) = 1) (pct := 79) (pcf := 77) (st' := []) (fun _ _ _ kt kf => e_ceq dX0_showsAllSights_74 (tgt := 79) rfl kt kf) (fun h11 => ?_) (fun h11 => ?_)
            · refine ev_letx (fun x12 ex12 => ?_)
              refine ev_st (pc' := 82) (L' := [xR a, xR b, xI x12, xI x4, xI 1]) (st' := []) (fun _ _ _ k => e_iinc dX0_showsAllSights_79 (i := 2) rfl (x := y2) rfl (y := x12) ex12 (L' := [xR a, xR b, xI x12, xI x4, xI 1]) rfl k) ?_
              refine ev_st (pc' := 2) (L' := [xR a, xR b, xI x12, xU, xU]) (st' := []) (fun _ _ _ k => e_goto dX0_showsAllSights_82 (tgt := 2) rfl (e_fg [3, 4] k)) ?_
              exact ih x12
            · exact ev_ret (e_iconst dX0_showsAllSights_77 (k4 rfl) (e_iret dX0_showsAllSights_78))
          · exact ev_ret (e_iconst dX0_showsAllSights_77 (k4 rfl) (e_iret dX0_showsAllSights_78))
        · refine ev_st (pc' := 51) (L' := [xR a, xR b, xI y2, xI x4, xI 0]) (st' := [xI x4, xR b, xR a]) (fun _ _ _ k => e_iconst dX0_showsAllSights_45 (k4 rfl) (e_istore dX0_showsAllSights_46 (i := 4) rfl (L' := [xR a, xR b, xI y2, xI x4, xI 0]) rfl (e_aload_n dX0_showsAllSights_48 rfl (i := 0) (x := a) rfl (e_aload_n dX0_showsAllSights_49 rfl (i := 1) (x := b) rfl (e_iload_n dX0_showsAllSights_50 rfl (i := 3) (x := x4) rfl k))))) ?_
          refine ev_callV (As := [xR b, xI x4]) (st := []) (fun v13 => [xI v13]) dX0_showsAllSights_51 mlX0_205 (kd0_0 h_a) rfl rfl rfl rfl rfl rfl (c_X0_numberOn (d := d + 1) h_a h_b x4) (fun _ => trivial) (fun _ => rfl) (fun v13 => ?_)
          refine ev_st (pc' := 62) (L' := [xR a, xR b, xI y2, xI x4, xI 0]) (st' := [xI y2, xR (a + 9), xI v13]) (fun _ _ _ k => e_aload_n dX0_showsAllSights_54 rfl (i := 0) (x := a) rfl (e_getr dX0_showsAllSights_55 flX0_28 (kd0_0 h_a) rfl (rf0_0_2 h_a) (e_getrN dX0_showsAllSights_58 flX0_227 (kd0_7 h_a) rfl (rf0_7_1 h_a) (e_iload_n dX0_showsAllSights_61 rfl (i := 2) (x := y2) rfl k)))) ?_
          refine ev_chk (fun h14 => ?_)
          refine ev_st (pc' := 63) (L' := [xR a, xR b, xI y2, xI x4, xI 0]) (st' := [xI (R (a + 9) (y2).toNat), xI v13]) (fun _ _ _ k => e_iald dX0_showsAllSights_62 (kd0_9 h_a) h14.1 h14.2 k) ?_
          refine ev_br2 (P := v13 = (R (a + 9) (y2).toNat)) (pct := 66) (pcf := 77) (st' := []) (fun _ _ _ kt kf => e_cne dX0_showsAllSights_63 (tgt := 77) rfl kt kf) (fun h15 => ?_) (fun h15 => ?_)
          · refine ev_st (pc' := 69) (L' := [xR a, xR b, xI y2, xI x4, xI 0]) (st' := [xI x4, xR b, xR a]) (fun _ _ _ k => e_aload_n dX0_showsAllSights_66 rfl (i := 0) (x := a) rfl (e_aload_n dX0_showsAllSights_67 rfl (i := 1) (x := b) rfl (e_iload_n dX0_showsAllSights_68 rfl (i := 3) (x := x4) rfl k))) ?_
            refine ev_callV (As := [xR b, xI x4]) (st := []) (fun v16 => [xI (xz v16)]) dX0_showsAllSights_69 mlX0_208 (kd0_0 h_a) rfl rfl rfl rfl rfl rfl (c_X0_isUpright (d := d) h_a h_b x4) (fun _ => xz01 _) (fun _ => rfl) (fun v16 => ?_)
            refine ev_st (pc' := 74) (L' := [xR a, xR b, xI y2, xI x4, xI 0]) (st' := [xI 0, xI (xz v16)]) (fun _ _ _ k => e_iload dX0_showsAllSights_72 (i := 4) (x := 0) rfl k) ?_
            refine ev_br2 (P := (xz v16) = 0) (pct := 79) (pcf := 77) (st' := []) (fun _ _ _ kt kf => e_ceq dX0_showsAllSights_74 (tgt := 79) rfl kt kf) (fun h17 => ?_) (fun h17 => ?_)
            · refine ev_letx (fun x18 ex18 => ?_)
              refine ev_st (pc' := 82) (L' := [xR a, xR b, xI x18, xI x4, xI 0]) (st' := []) (fun _ _ _ k => e_iinc dX0_showsAllSights_79 (i := 2) rfl (x := y2) rfl (y := x18) ex18 (L' := [xR a, xR b, xI x18, xI x4, xI 0]) rfl k) ?_
              refine ev_st (pc' := 2) (L' := [xR a, xR b, xI x18, xU, xU]) (st' := []) (fun _ _ _ k => e_goto dX0_showsAllSights_82 (tgt := 2) rfl (e_fg [3, 4] k)) ?_
              exact ih x18
            · exact ev_ret (e_iconst dX0_showsAllSights_77 (k4 rfl) (e_iret dX0_showsAllSights_78))
          · exact ev_ret (e_iconst dX0_showsAllSights_77 (k4 rfl) (e_iret dX0_showsAllSights_78))
set_option maxRecDepth 20000 in
set_option maxHeartbeats 4000000 in
theorem c_X0_showsAllSights {l : Launch} {g : xG} {d : Nat} {A : xA} {R : xN} {a : Nat} {b : Nat} (h_a : sh 0 A a) (h_b : sh 3 A b)  : Ev l g (d + 4) mX0_showsAllSights 0 [xR a, xR b, xU, xU, xU] [] A R (fun v : Bool => some (xI (xz v))) (fun _ => R) (f_X0_showsAllSights a b R) := by
  rw [f_X0_showsAllSights]
  refine ev_st (pc' := 2) (L' := [xR a, xR b, xI 0, xU, xU]) (st' := []) (fun _ _ _ k => e_iconst dX0_showsAllSights_0 (k4 rfl) (e_istore_n dX0_showsAllSights_1 rfl (i := 2) rfl (L' := [xR a, xR b, xI 0, xU, xU]) rfl k)) ?_
  refine lc_X0_showsAllSights_2 h_a h_b R (fun z19 => ?_) 6000 0
  exact ev_ret (e_iconst dX0_showsAllSights_85 (k4 rfl) (e_iret dX0_showsAllSights_86))
def lp_X0_pagesInOrder_2 (a : Nat) (b : Nat) (R : xN) : Nat → Int → (Int → Option (Int)) → Option (Int)
  | 0, _, _ => none
  | n + 1, y2, X =>
    (f_X3_lastPage b R).bind (fun v1 =>
    if v1 < y2 then
    X y2
    else
    (f_X0_numberOn a b y2 R).bind (fun v3 =>
    if v3 = y2 then
    (f_X0_isUpright a b y2 R).bind (fun v5 =>
    if v5 = true then
    xlet (w4 (y2 + 1)) (fun x7 =>
    lp_X0_pagesInOrder_2 a b R n x7 X)
    else
    some y2)
    else
    some y2))
def f_X0_pagesInOrder (a : Nat) (b : Nat) (R : xN) : Option (Int) :=
  lp_X0_pagesInOrder_2 a b R 6000 0 (fun z8 =>
  (f_X3_lastPage b R).bind (fun v9 =>
  some (w4 (v9 + 1))))
set_option maxRecDepth 20000 in
set_option maxHeartbeats 4000000 in
theorem lc_X0_pagesInOrder_2 {l : Launch} {g : xG} {d : Nat} {A : xA} {a : Nat} {b : Nat} (h_a : sh 0 A a) (h_b : sh 3 A b) (R : xN) {X : Int → Option (Int)} (hX : ∀ (y2 : Int), Ev l g (d + 4) mX0_pagesInOrder 37 [xU, xR b, xU] [] A R (fun v : Int => some (xI v)) (fun _ => R) (X y2)) (n : Nat) (y2 : Int) : Ev l g (d + 4) mX0_pagesInOrder 2 [xR a, xR b, xI y2] [] A R (fun v : Int => some (xI v)) (fun _ => R) (lp_X0_pagesInOrder_2 a b R n y2 X) := by
  induction n generalizing y2 with
  | zero => exact ev_none
  | succ n ih =>
    rw [lp_X0_pagesInOrder_2]
    refine ev_st (pc' := 4) (L' := [xR a, xR b, xI y2]) (st' := [xR b, xI y2]) (fun _ _ _ k => e_iload_n dX0_pagesInOrder_2 rfl (i := 2) (x := y2) rfl (e_aload_n dX0_pagesInOrder_3 rfl (i := 1) (x := b) rfl k)) ?_
    refine ev_callV (As := []) (st := [xI y2]) (fun v1 => [xI v1, xI y2]) dX0_pagesInOrder_4 mlX0_147 (kd3_0 h_b) rfl rfl rfl rfl rfl rfl (c_X3_lastPage (d := d + 2) h_b) (fun _ => trivial) (fun _ => rfl) (fun v1 => ?_)
    refine ev_br2 (P := v1 < y2) (pct := 37) (pcf := 10) (st' := []) (fun _ _ _ kt kf => e_cgt dX0_pagesInOrder_7 (tgt := 37) rfl kt kf) (fun h2 => ?_) (fun h2 => ?_)
    · refine ev_st (pc' := 37) (L' := [xU, xR b, xU]) (st' := []) (fun _ _ _ k => e_fg [0, 2] k) ?_
      exact hX y2
    · refine ev_st (pc' := 13) (L' := [xR a, xR b, xI y2]) (st' := [xI y2, xR b, xR a]) (fun _ _ _ k => e_aload_n dX0_pagesInOrder_10 rfl (i := 0) (x := a) rfl (e_aload_n dX0_pagesInOrder_11 rfl (i := 1) (x := b) rfl (e_iload_n dX0_pagesInOrder_12 rfl (i := 2) (x := y2) rfl k))) ?_
      refine ev_callV (As := [xR b, xI y2]) (st := []) (fun v3 => [xI v3]) dX0_pagesInOrder_13 mlX0_205 (kd0_0 h_a) rfl rfl rfl rfl rfl rfl (c_X0_numberOn (d := d + 1) h_a h_b y2) (fun _ => trivial) (fun _ => rfl) (fun v3 => ?_)
      refine ev_st (pc' := 17) (L' := [xR a, xR b, xI y2]) (st' := [xI y2, xI v3]) (fun _ _ _ k => e_iload_n dX0_pagesInOrder_16 rfl (i := 2) (x := y2) rfl k) ?_
      refine ev_br2 (P := v3 = y2) (pct := 20) (pcf := 29) (st' := []) (fun _ _ _ kt kf => e_cne dX0_pagesInOrder_17 (tgt := 29) rfl kt kf) (fun h4 => ?_) (fun h4 => ?_)
      · refine ev_st (pc' := 23) (L' := [xR a, xR b, xI y2]) (st' := [xI y2, xR b, xR a]) (fun _ _ _ k => e_aload_n dX0_pagesInOrder_20 rfl (i := 0) (x := a) rfl (e_aload_n dX0_pagesInOrder_21 rfl (i := 1) (x := b) rfl (e_iload_n dX0_pagesInOrder_22 rfl (i := 2) (x := y2) rfl k))) ?_
        refine ev_callV (As := [xR b, xI y2]) (st := []) (fun v5 => [xI (xz v5)]) dX0_pagesInOrder_23 mlX0_208 (kd0_0 h_a) rfl rfl rfl rfl rfl rfl (c_X0_isUpright (d := d) h_a h_b y2) (fun _ => xz01 _) (fun _ => rfl) (fun v5 => ?_)
        refine ev_br2 (P := v5 = true) (pct := 31) (pcf := 29) (st' := []) (fun _ _ _ kt kf => e_ifnez dX0_pagesInOrder_26 (tgt := 31) rfl kt kf) (fun h6 => ?_) (fun h6 => ?_)
        · refine ev_letx (fun x7 ex7 => ?_)
          refine ev_st (pc' := 34) (L' := [xR a, xR b, xI x7]) (st' := []) (fun _ _ _ k => e_iinc dX0_pagesInOrder_31 (i := 2) rfl (x := y2) rfl (y := x7) ex7 (L' := [xR a, xR b, xI x7]) rfl k) ?_
          refine ev_st (pc' := 2) (L' := [xR a, xR b, xI x7]) (st' := []) (fun _ _ _ k => e_goto dX0_pagesInOrder_34 (tgt := 2) rfl k) ?_
          exact ih x7
        · exact ev_ret (e_iload_n dX0_pagesInOrder_29 rfl (i := 2) (x := y2) rfl (e_iret dX0_pagesInOrder_30))
      · exact ev_ret (e_iload_n dX0_pagesInOrder_29 rfl (i := 2) (x := y2) rfl (e_iret dX0_pagesInOrder_30))
set_option maxRecDepth 20000 in
set_option maxHeartbeats 4000000 in
theorem c_X0_pagesInOrder {l : Launch} {g : xG} {d : Nat} {A : xA} {R : xN} {a : Nat} {b : Nat} (h_a : sh 0 A a) (h_b : sh 3 A b)  : Ev l g (d + 4) mX0_pagesInOrder 0 [xR a, xR b, xU] [] A R (fun v : Int => some (xI v)) (fun _ => R) (f_X0_pagesInOrder a b R) := by
  rw [f_X0_pagesInOrder]
  refine ev_st (pc' := 2) (L' := [xR a, xR b, xI 0]) (st' := []) (fun _ _ _ k => e_iconst dX0_pagesInOrder_0 (k4 rfl) (e_istore_n dX0_pagesInOrder_1 rfl (i := 2) rfl (L' := [xR a, xR b, xI 0]) rfl k)) ?_
  refine lc_X0_pagesInOrder_2 h_a h_b R (fun z8 => ?_) 6000 0
  refine ev_st (pc' := 38) (L' := [xU, xR b, xU]) (st' := [xR b]) (fun _ _ _ k => e_aload_n dX0_pagesInOrder_37 rfl (i := 1) (x := b) rfl k) ?_
  refine ev_callV (As := []) (st := []) (fun v9 => [xI v9]) dX0_pagesInOrder_38 mlX0_147 (kd3_0 h_b) rfl rfl rfl rfl rfl rfl (c_X3_lastPage (d := d + 2) h_b) (fun _ => trivial) (fun _ => rfl) (fun v9 => ?_)
  exact ev_ret (e_iconst dX0_pagesInOrder_41 (k4 rfl) (e_iadd dX0_pagesInOrder_42 (e_iret dX0_pagesInOrder_43)))
def lp_X0_edgesToCut_4 (a : Nat) (b : Nat) (R : xN) : Nat → Int → Int → (Int → Int → Option (Int)) → Option (Int)
  | 0, _, _, _ => none
  | n + 1, y2, y3, X =>
    if 4 ≤ y3 then
    X y2 y3
    else
    (f_X0_spineEdge a R).bind (fun v2 =>
    if y3 = v2 then
    xlet (w4 (y3 + 1)) (fun x4 =>
    lp_X0_edgesToCut_4 a b R n y2 x4 X)
    else
    (f_X3_pairsAlong b y3 R).bind (fun v5 =>
    if v5 ≤ 0 then
    xlet (w4 (y3 + 1)) (fun x7 =>
    lp_X0_edgesToCut_4 a b R n y2 x7 X)
    else
    xlet (b4or y2 (b4shl 1 y3)) (fun x8 =>
    xlet (w4 (y3 + 1)) (fun x9 =>
    lp_X0_edgesToCut_4 a b R n x8 x9 X))))
def f_X0_edgesToCut (a : Nat) (b : Nat) (R : xN) : Option (Int) :=
  lp_X0_edgesToCut_4 a b R 6000 0 0 (fun z10 z11 =>
  some z10)
set_option maxRecDepth 20000 in
set_option maxHeartbeats 4000000 in
theorem lc_X0_edgesToCut_4 {l : Launch} {g : xG} {d : Nat} {A : xA} {a : Nat} {b : Nat} (h_a : sh 0 A a) (h_b : sh 3 A b) (R : xN) {X : Int → Int → Option (Int)} (hX : ∀ (y2 : Int) (y3 : Int), Ev l g (d + 3) mX0_edgesToCut 37 [xU, xU, xI y2, xU] [] A R (fun v : Int => some (xI v)) (fun _ => R) (X y2 y3)) (n : Nat) (y2 : Int) (y3 : Int) : Ev l g (d + 3) mX0_edgesToCut 4 [xR a, xR b, xI y2, xI y3] [] A R (fun v : Int => some (xI v)) (fun _ => R) (lp_X0_edgesToCut_4 a b R n y2 y3 X) := by
  induction n generalizing y2 y3 with
  | zero => exact ev_none
  | succ n ih =>
    rw [lp_X0_edgesToCut_4]
    refine ev_st (pc' := 6) (L' := [xR a, xR b, xI y2, xI y3]) (st' := [xI 4, xI y3]) (fun _ _ _ k => e_iload_n dX0_edgesToCut_4 rfl (i := 3) (x := y3) rfl (e_iconst dX0_edgesToCut_5 (k4 rfl) k)) ?_
    refine ev_br2 (P := 4 ≤ y3) (pct := 37) (pcf := 9) (st' := []) (fun _ _ _ kt kf => e_cge dX0_edgesToCut_6 (tgt := 37) rfl kt kf) (fun h1 => ?_) (fun h1 => ?_)
    · refine ev_st (pc' := 37) (L' := [xU, xU, xI y2, xU]) (st' := []) (fun _ _ _ k => e_fg [0, 1, 3] k) ?_
      exact hX y2 y3
    · refine ev_st (pc' := 11) (L' := [xR a, xR b, xI y2, xI y3]) (st' := [xR a, xI y3]) (fun _ _ _ k => e_iload_n dX0_edgesToCut_9 rfl (i := 3) (x := y3) rfl (e_aload_n dX0_edgesToCut_10 rfl (i := 0) (x := a) rfl k)) ?_
      refine ev_callV (As := []) (st := [xI y3]) (fun v2 => [xI v2, xI y3]) dX0_edgesToCut_11 mlX0_196 (kd0_0 h_a) rfl rfl rfl rfl rfl rfl (c_X0_spineEdge (d := d + 2) h_a) (fun _ => trivial) (fun _ => rfl) (fun v2 => ?_)
      refine ev_br2 (P := y3 = v2) (pct := 31) (pcf := 17) (st' := []) (fun _ _ _ kt kf => e_ceq dX0_edgesToCut_14 (tgt := 31) rfl kt kf) (fun h3 => ?_) (fun h3 => ?_)
      · refine ev_letx (fun x4 ex4 => ?_)
        refine ev_st (pc' := 34) (L' := [xR a, xR b, xI y2, xI x4]) (st' := []) (fun _ _ _ k => e_iinc dX0_edgesToCut_31 (i := 3) rfl (x := y3) rfl (y := x4) ex4 (L' := [xR a, xR b, xI y2, xI x4]) rfl k) ?_
        refine ev_st (pc' := 4) (L' := [xR a, xR b, xI y2, xI x4]) (st' := []) (fun _ _ _ k => e_goto dX0_edgesToCut_34 (tgt := 4) rfl k) ?_
        exact ih y2 x4
      · refine ev_st (pc' := 19) (L' := [xR a, xR b, xI y2, xI y3]) (st' := [xI y3, xR b]) (fun _ _ _ k => e_aload_n dX0_edgesToCut_17 rfl (i := 1) (x := b) rfl (e_iload_n dX0_edgesToCut_18 rfl (i := 3) (x := y3) rfl k)) ?_
        refine ev_callV (As := [xI y3]) (st := []) (fun v5 => [xI v5]) dX0_edgesToCut_19 mlX0_164 (kd3_0 h_b) rfl rfl rfl rfl rfl rfl (c_X3_pairsAlong (d := d) h_b y3) (fun _ => trivial) (fun _ => rfl) (fun v5 => ?_)
        refine ev_br2 (P := v5 ≤ 0) (pct := 31) (pcf := 25) (st' := []) (fun _ _ _ kt kf => e_ifle dX0_edgesToCut_22 (tgt := 31) rfl kt kf) (fun h6 => ?_) (fun h6 => ?_)
        · refine ev_letx (fun x7 ex7 => ?_)
          refine ev_st (pc' := 34) (L' := [xR a, xR b, xI y2, xI x7]) (st' := []) (fun _ _ _ k => e_iinc dX0_edgesToCut_31 (i := 3) rfl (x := y3) rfl (y := x7) ex7 (L' := [xR a, xR b, xI y2, xI x7]) rfl k) ?_
          refine ev_st (pc' := 4) (L' := [xR a, xR b, xI y2, xI x7]) (st' := []) (fun _ _ _ k => e_goto dX0_edgesToCut_34 (tgt := 4) rfl k) ?_
          exact ih y2 x7
        · refine ev_st (pc' := 30) (L' := [xR a, xR b, xI y2, xI y3]) (st' := [xI (b4or y2 (b4shl 1 y3))]) (fun _ _ _ k => e_iload_n dX0_edgesToCut_25 rfl (i := 2) (x := y2) rfl (e_iconst dX0_edgesToCut_26 (k4 rfl) (e_iload_n dX0_edgesToCut_27 rfl (i := 3) (x := y3) rfl (e_ishl dX0_edgesToCut_28 (e_ior dX0_edgesToCut_29 k))))) ?_
          refine ev_leti (fun x8 ex8 => ?_)
          refine ev_st (pc' := 31) (L' := [xR a, xR b, xI x8, xI y3]) (st' := []) (fun _ _ _ k => e_istore_n dX0_edgesToCut_30 rfl (i := 2) rfl (L' := [xR a, xR b, xI x8, xI y3]) rfl k) ?_
          refine ev_letx (fun x9 ex9 => ?_)
          refine ev_st (pc' := 34) (L' := [xR a, xR b, xI x8, xI x9]) (st' := []) (fun _ _ _ k => e_iinc dX0_edgesToCut_31 (i := 3) rfl (x := y3) rfl (y := x9) ex9 (L' := [xR a, xR b, xI x8, xI x9]) rfl k) ?_
          refine ev_st (pc' := 4) (L' := [xR a, xR b, xI x8, xI x9]) (st' := []) (fun _ _ _ k => e_goto dX0_edgesToCut_34 (tgt := 4) rfl k) ?_
          exact ih x8 x9
set_option maxRecDepth 20000 in
set_option maxHeartbeats 4000000 in
theorem c_X0_edgesToCut {l : Launch} {g : xG} {d : Nat} {A : xA} {R : xN} {a : Nat} {b : Nat} (h_a : sh 0 A a) (h_b : sh 3 A b)  : Ev l g (d + 3) mX0_edgesToCut 0 [xR a, xR b, xU, xU] [] A R (fun v : Int => some (xI v)) (fun _ => R) (f_X0_edgesToCut a b R) := by
  rw [f_X0_edgesToCut]
  refine ev_st (pc' := 4) (L' := [xR a, xR b, xI 0, xI 0]) (st' := []) (fun _ _ _ k => e_iconst dX0_edgesToCut_0 (k4 rfl) (e_istore_n dX0_edgesToCut_1 rfl (i := 2) rfl (L' := [xR a, xR b, xI 0, xU]) rfl (e_iconst dX0_edgesToCut_2 (k4 rfl) (e_istore_n dX0_edgesToCut_3 rfl (i := 3) rfl (L' := [xR a, xR b, xI 0, xI 0]) rfl k)))) ?_
  refine lc_X0_edgesToCut_4 h_a h_b R (fun z10 z11 => ?_) 6000 0 0
  exact ev_ret (e_iload_n dX0_edgesToCut_37 rfl (i := 2) (x := z10) rfl (e_iret dX0_edgesToCut_38))
def lp_X8_copyFrom_21 (a : Nat) (b : Nat) : Nat → Int → xN → (Int → xN → Option (xN)) → Option (xN)
  | 0, _, _, _ => none
  | n + 1, y2, R, X =>
    if 2 ≤ y2 then
    X y2 R
    else
    (f_X9_isInSet y2 (R a 2) R).bind (fun v4 =>
    if v4 = true then
    if 0 ≤ y2 ∧ y2 < 2 then
    if 0 ≤ y2 ∧ y2 < 2 then
    (f_X0_copyFrom (a + 16 + 14 * (y2).toNat) (b + 16 + 14 * (y2).toNat) R).bind (fun v8 =>
    xlet (w4 (y2 + 1)) (fun x9 =>
    lp_X8_copyFrom_21 a b n x9 v8 X))
    else none
    else none
    else
    xlet (w4 (y2 + 1)) (fun x10 =>
    lp_X8_copyFrom_21 a b n x10 R X))
def f_X8_copyFrom (a : Nat) (b : Nat) (R : xN) : Option (xN) :=
  (f_X0_copyFrom (a + 1) (b + 1) R).bind (fun v1 =>
  xlet (xup v1 a 2 (v1 b 2)) (fun R2 =>
  lp_X8_copyFrom_21 a b 6000 0 R2 (fun z11 R12 =>
  some R12)))
set_option maxRecDepth 20000 in
set_option maxHeartbeats 4000000 in
theorem lc_X8_copyFrom_21 {l : Launch} {g : xG} {d : Nat} {A : xA} {a : Nat} {b : Nat} (h_a : sh 8 A a) (h_b : sh 8 A b)  {X : Int → xN → Option (xN)} (hX : ∀ (y2 : Int) (R : xN), Ev l g (d + 3) mX8_copyFrom 58 [xU, xU, xU] [] A R (fun _ : xN => none) (fun v => v) (X y2 R)) (n : Nat) (y2 : Int) (R : xN) : Ev l g (d + 3) mX8_copyFrom 21 [xR a, xR b, xI y2] [] A R (fun _ : xN => none) (fun v => v) (lp_X8_copyFrom_21 a b n y2 R X) := by
  induction n generalizing y2 R with
  | zero => exact ev_none
  | succ n ih =>
    rw [lp_X8_copyFrom_21]
    refine ev_st (pc' := 23) (L' := [xR a, xR b, xI y2]) (st' := [xI 2, xI y2]) (fun _ _ _ k => e_iload_n dX8_copyFrom_21 rfl (i := 2) (x := y2) rfl (e_iconst dX8_copyFrom_22 (k4 rfl) k)) ?_
    refine ev_br2 (P := 2 ≤ y2) (pct := 58) (pcf := 26) (st' := []) (fun _ _ _ kt kf => e_cge dX8_copyFrom_23 (tgt := 58) rfl kt kf) (fun h3 => ?_) (fun h3 => ?_)
    · refine ev_st (pc' := 58) (L' := [xU, xU, xU]) (st' := []) (fun _ _ _ k => e_fg [0, 1, 2] k) ?_
      exact hX y2 R
    · refine ev_st (pc' := 31) (L' := [xR a, xR b, xI y2]) (st' := [xI (R a 2), xI y2]) (fun _ _ _ k => e_iload_n dX8_copyFrom_26 rfl (i := 2) (x := y2) rfl (e_aload_n dX8_copyFrom_27 rfl (i := 0) (x := a) rfl (e_geti dX8_copyFrom_28 flX8_22 (kd8_0 h_a) (Or.inl rfl) k))) ?_
      refine ev_callN (As := [xI y2, xI (R a 2)]) (st := []) (fun v4 => [xI (xz v4)]) dX8_copyFrom_31 mlX8_30 rfl rfl rfl rfl rfl rfl (c_X9_isInSet (d := d + 2) y2 (R a 2)) (fun _ => xz01 _) (fun _ => rfl) (fun v4 => ?_)
      refine ev_br2 (P := v4 = true) (pct := 37) (pcf := 52) (st' := []) (fun _ _ _ kt kf => e_ifeqz dX8_copyFrom_34 (tgt := 52) rfl kt kf) (fun h5 => ?_) (fun h5 => ?_)
      · refine ev_st (pc' := 42) (L' := [xR a, xR b, xI y2]) (st' := [xI y2, xR (a + 15)]) (fun _ _ _ k => e_aload_n dX8_copyFrom_37 rfl (i := 0) (x := a) rfl (e_getr dX8_copyFrom_38 flX8_18 (kd8_0 h_a) rfl (rf8_0_1 h_a) (e_iload_n dX8_copyFrom_41 rfl (i := 2) (x := y2) rfl k))) ?_
        refine ev_chk (fun h6 => ?_)
        refine ev_st (pc' := 43) (L' := [xR a, xR b, xI y2]) (st' := [xR (a + 16 + 14 * (y2).toNat)]) (fun _ _ _ k => e_aald2 dX8_copyFrom_42 (kd8_15 h_a) h6.1 h6.2 (slot_at h_a h6.1 h6.2) k) ?_
        refine ev_st (pc' := 48) (L' := [xR a, xR b, xI y2]) (st' := [xI y2, xR (b + 15), xR (a + 16 + 14 * (y2).toNat)]) (fun _ _ _ k => e_aload_n dX8_copyFrom_43 rfl (i := 1) (x := b) rfl (e_getr dX8_copyFrom_44 flX8_18 (kd8_0 h_b) rfl (rf8_0_1 h_b) (e_iload_n dX8_copyFrom_47 rfl (i := 2) (x := y2) rfl k))) ?_
        refine ev_chk (fun h7 => ?_)
        refine ev_st (pc' := 49) (L' := [xR a, xR b, xI y2]) (st' := [xR (b + 16 + 14 * (y2).toNat), xR (a + 16 + 14 * (y2).toNat)]) (fun _ _ _ k => e_aald2 dX8_copyFrom_48 (kd8_15 h_b) h7.1 h7.2 (slot_at h_b h7.1 h7.2) k) ?_
        refine ev_callV (As := [xR (b + 16 + 14 * (y2).toNat)]) (st := []) (fun v8 => []) dX8_copyFrom_49 mlX8_26 (kd0_0 (slot_sh h_a h6.1 h6.2)) rfl rfl rfl rfl rfl rfl (c_X0_copyFrom (d := d) (slot_sh h_a h6.1 h6.2) (slot_sh h_b h7.1 h7.2)) (fun _ => trivial) (fun _ => rfl) (fun v8 => ?_)
        refine ev_letx (fun x9 ex9 => ?_)
        refine ev_st (pc' := 55) (L' := [xR a, xR b, xI x9]) (st' := []) (fun _ _ _ k => e_iinc dX8_copyFrom_52 (i := 2) rfl (x := y2) rfl (y := x9) ex9 (L' := [xR a, xR b, xI x9]) rfl k) ?_
        refine ev_st (pc' := 21) (L' := [xR a, xR b, xI x9]) (st' := []) (fun _ _ _ k => e_goto dX8_copyFrom_55 (tgt := 21) rfl k) ?_
        exact ih x9 v8
      · refine ev_letx (fun x10 ex10 => ?_)
        refine ev_st (pc' := 55) (L' := [xR a, xR b, xI x10]) (st' := []) (fun _ _ _ k => e_iinc dX8_copyFrom_52 (i := 2) rfl (x := y2) rfl (y := x10) ex10 (L' := [xR a, xR b, xI x10]) rfl k) ?_
        refine ev_st (pc' := 21) (L' := [xR a, xR b, xI x10]) (st' := []) (fun _ _ _ k => e_goto dX8_copyFrom_55 (tgt := 21) rfl k) ?_
        exact ih x10 R
set_option maxRecDepth 20000 in
set_option maxHeartbeats 4000000 in
theorem c_X8_copyFrom {l : Launch} {g : xG} {d : Nat} {A : xA} {R : xN} {a : Nat} {b : Nat} (h_a : sh 8 A a) (h_b : sh 8 A b)  : Ev l g (d + 3) mX8_copyFrom 0 [xR a, xR b, xU] [] A R (fun _ : xN => none) (fun v => v) (f_X8_copyFrom a b R) := by
  rw [f_X8_copyFrom]
  refine ev_st (pc' := 8) (L' := [xR a, xR b, xU]) (st' := [xR (b + 1), xR (a + 1)]) (fun _ _ _ k => e_aload_n dX8_copyFrom_0 rfl (i := 0) (x := a) rfl (e_getr dX8_copyFrom_1 flX8_12 (kd8_0 h_a) rfl (rf8_0_0 h_a) (e_aload_n dX8_copyFrom_4 rfl (i := 1) (x := b) rfl (e_getr dX8_copyFrom_5 flX8_12 (kd8_0 h_b) rfl (rf8_0_0 h_b) k)))) ?_
  refine ev_callV (As := [xR (b + 1)]) (st := []) (fun v1 => []) dX8_copyFrom_8 mlX8_26 (kd8_1 h_a) rfl rfl rfl rfl rfl rfl (c_X0_copyFrom (d := d) (sb8_1_0 h_a) (sb8_1_0 h_b)) (fun _ => trivial) (fun _ => rfl) (fun v1 => ?_)
  refine ev_st (pc' := 19) (L' := [xR a, xR b, xU]) (st' := []) (fun _ _ _ k => e_aload_n dX8_copyFrom_11 rfl (i := 0) (x := a) rfl (e_aload_n dX8_copyFrom_12 rfl (i := 1) (x := b) rfl (e_geti dX8_copyFrom_13 flX8_22 (kd8_0 h_b) (Or.inl rfl) (e_puti dX8_copyFrom_16 flX8_22 (kd8_0 h_a) (Or.inl rfl) rfl k)))) ?_
  refine ev_letR (fun R2 eR2 => ?_)
  refine ev_st (pc' := 21) (L' := [xR a, xR b, xI 0]) (st' := []) (fun _ _ _ k => e_iconst dX8_copyFrom_19 (k4 rfl) (e_istore_n dX8_copyFrom_20 rfl (i := 2) rfl (L' := [xR a, xR b, xI 0]) rfl k)) ?_
  refine lc_X8_copyFrom_21 h_a h_b (fun z11 R12 => ?_) 6000 0 R2
  exact ev_ret (e_vret dX8_copyFrom_58)
def f_X1_keep (a : Nat) (b : Nat) (R : xN) : Option (xN) :=
  (f_X9_isIn (R a 1) 0 5 R).bind (fun v1 =>
  if v1 = true then
  if 0 ≤ (R a 1) ∧ (R a 1) < 6 ∧ xsta a (R (a + 1) ((R a 1)).toNat) = true then
  (f_X8_copyFrom (R (a + 1) ((R a 1)).toNat).toNat b R).bind (fun v4 =>
  some v4)
  else none
  else
  some R)
set_option maxRecDepth 20000 in
set_option maxHeartbeats 4000000 in
theorem c_X1_keep {l : Launch} {g : xG} {d : Nat} {A : xA} {R : xN} {a : Nat} {b : Nat} (h_a : sh 1 A a) (h_b : sh 8 A b)  : Ev l g (d + 4) mX1_keep 0 [xR a, xR b] [] A R (fun _ : xN => none) (fun v => v) (f_X1_keep a b R) := by
  rw [f_X1_keep]
  refine ev_st (pc' := 6) (L' := [xR a, xR b]) (st' := [xI 5, xI 0, xI (R a 1)]) (fun _ _ _ k => e_aload_n dX1_keep_0 rfl (i := 0) (x := a) rfl (e_geti dX1_keep_1 flX1_18 (kd1_0 h_a) (Or.inl rfl) (e_iconst dX1_keep_4 (k4 rfl) (e_iconst dX1_keep_5 (k4 rfl) k)))) ?_
  refine ev_callN (As := [xI (R a 1), xI 0, xI 5]) (st := []) (fun v1 => [xI (xz v1)]) dX1_keep_6 mlX1_22 rfl rfl rfl rfl rfl rfl (c_X9_isIn (d := d + 3) (R a 1) 0 5) (fun _ => xz01 _) (fun _ => rfl) (fun v1 => ?_)
  refine ev_br2 (P := v1 = true) (pct := 12) (pcf := 25) (st' := []) (fun _ _ _ kt kf => e_ifeqz dX1_keep_9 (tgt := 25) rfl kt kf) (fun h2 => ?_) (fun h2 => ?_)
  · refine ev_st (pc' := 20) (L' := [xR a, xR b]) (st' := [xI (R a 1), xR (a + 1)]) (fun _ _ _ k => e_aload_n dX1_keep_12 rfl (i := 0) (x := a) rfl (e_getr dX1_keep_13 flX1_12 (kd1_0 h_a) rfl (rf1_0_0 h_a) (e_aload_n dX1_keep_16 rfl (i := 0) (x := a) rfl (e_geti dX1_keep_17 flX1_18 (kd1_0 h_a) (Or.inl rfl) k)))) ?_
    refine ev_chk (fun h3 => ?_)
    refine ev_st (pc' := 21) (L' := [xR a, xR b]) (st' := [xR (R (a + 1) ((R a 1)).toNat).toNat]) (fun _ _ _ k => e_aald3 dX1_keep_20 (kd1_1 h_a) h3.1 h3.2.1 (xsta_0 h3.2.2) k) ?_
    refine ev_st (pc' := 22) (L' := [xR a, xR b]) (st' := [xR b, xR (R (a + 1) ((R a 1)).toNat).toNat]) (fun _ _ _ k => e_aload_n dX1_keep_21 rfl (i := 1) (x := b) rfl k) ?_
    refine ev_callV (As := [xR b]) (st := []) (fun v4 => []) dX1_keep_22 mlX1_26 (kd8_0 (xsta_sh h_a h3.2.2)) rfl rfl rfl rfl rfl rfl (c_X8_copyFrom (d := d) (xsta_sh h_a h3.2.2) h_b) (fun _ => trivial) (fun _ => rfl) (fun v4 => ?_)
    exact ev_ret (e_vret dX1_keep_25)
  · exact ev_ret (e_vret dX1_keep_25)
def f_X1_bringBack (a : Nat) (b : Nat) (R : xN) : Option (xN) :=
  (f_X9_isIn (R a 1) 0 5 R).bind (fun v1 =>
  if v1 = true then
  if 0 ≤ (R a 1) ∧ (R a 1) < 6 ∧ xsta a (R (a + 1) ((R a 1)).toNat) = true then
  (f_X8_copyFrom b (R (a + 1) ((R a 1)).toNat).toNat R).bind (fun v4 =>
  some v4)
  else none
  else
  some R)
set_option maxRecDepth 20000 in
set_option maxHeartbeats 4000000 in
theorem c_X1_bringBack {l : Launch} {g : xG} {d : Nat} {A : xA} {R : xN} {a : Nat} {b : Nat} (h_a : sh 1 A a) (h_b : sh 8 A b)  : Ev l g (d + 4) mX1_bringBack 0 [xR a, xR b] [] A R (fun _ : xN => none) (fun v => v) (f_X1_bringBack a b R) := by
  rw [f_X1_bringBack]
  refine ev_st (pc' := 6) (L' := [xR a, xR b]) (st' := [xI 5, xI 0, xI (R a 1)]) (fun _ _ _ k => e_aload_n dX1_bringBack_0 rfl (i := 0) (x := a) rfl (e_geti dX1_bringBack_1 flX1_18 (kd1_0 h_a) (Or.inl rfl) (e_iconst dX1_bringBack_4 (k4 rfl) (e_iconst dX1_bringBack_5 (k4 rfl) k)))) ?_
  refine ev_callN (As := [xI (R a 1), xI 0, xI 5]) (st := []) (fun v1 => [xI (xz v1)]) dX1_bringBack_6 mlX1_22 rfl rfl rfl rfl rfl rfl (c_X9_isIn (d := d + 3) (R a 1) 0 5) (fun _ => xz01 _) (fun _ => rfl) (fun v1 => ?_)
  refine ev_br2 (P := v1 = true) (pct := 12) (pcf := 25) (st' := []) (fun _ _ _ kt kf => e_ifeqz dX1_bringBack_9 (tgt := 25) rfl kt kf) (fun h2 => ?_) (fun h2 => ?_)
  · refine ev_st (pc' := 21) (L' := [xR a, xR b]) (st' := [xI (R a 1), xR (a + 1), xR b]) (fun _ _ _ k => e_aload_n dX1_bringBack_12 rfl (i := 1) (x := b) rfl (e_aload_n dX1_bringBack_13 rfl (i := 0) (x := a) rfl (e_getr dX1_bringBack_14 flX1_12 (kd1_0 h_a) rfl (rf1_0_0 h_a) (e_aload_n dX1_bringBack_17 rfl (i := 0) (x := a) rfl (e_geti dX1_bringBack_18 flX1_18 (kd1_0 h_a) (Or.inl rfl) k))))) ?_
    refine ev_chk (fun h3 => ?_)
    refine ev_st (pc' := 22) (L' := [xR a, xR b]) (st' := [xR (R (a + 1) ((R a 1)).toNat).toNat, xR b]) (fun _ _ _ k => e_aald3 dX1_bringBack_21 (kd1_1 h_a) h3.1 h3.2.1 (xsta_0 h3.2.2) k) ?_
    refine ev_callV (As := [xR (R (a + 1) ((R a 1)).toNat).toNat]) (st := []) (fun v4 => []) dX1_bringBack_22 mlX1_26 (kd8_0 h_b) rfl rfl rfl rfl rfl rfl (c_X8_copyFrom (d := d) h_b (xsta_sh h_a h3.2.2)) (fun _ => trivial) (fun _ => rfl) (fun v4 => ?_)
    exact ev_ret (e_vret dX1_bringBack_25)
  · exact ev_ret (e_vret dX1_bringBack_25)
