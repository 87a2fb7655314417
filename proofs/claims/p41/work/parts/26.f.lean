def lp_L_isCut_11 (a : Nat) (p1 : Int) (p2 : Int) (p3 : Int) (p4 : Int) (R : xN) : Nat → Int → Int → (Int → Int → Option (Bool × xN)) → Option (Bool × xN)
  | 0, _, _, _ => none
  | n + 1, y5, y6, X =>
    if 4 ≤ y6 then
    X y5 y6
    else
    (f_X9_hanging a y6 R).bind (fun v3 =>
    xlet (w4 (y5 + v3)) (fun x4 =>
    xlet (w4 (y6 + 1)) (fun x5 =>
    lp_L_isCut_11 a p1 p2 p3 p4 R n x4 x5 X)))
def lp_L_isCut_82 (a : Nat) (p1 : Int) (p4 : Int) (p7 : Int) (p8 : Int) : Nat → Int → Int → xN → (Int → Int → xN → Option (Bool × xN)) → Option (Bool × xN)
  | 0, _, _, _, _ => none
  | n + 1, y6, y9, R, X =>
    if 4 ≤ y9 then
    X y6 y9 R
    else
    if y6 = 0 then
    X y6 y9 R
    else
    if (b4and (b4shr p7 y9) 1) = 1 then
    (f_X9_hanging a y9 R).bind (fun v16 =>
    if v16 ≤ 0 then
    none
    else
    (f_X9_cut a y9 R).bind (fun v18 =>
    if v18.1 = v16 then
    (f_X9_hanging a y9 v18.2).bind (fun v20 =>
    if v20 = 0 then
    (f_X9_cut a y9 v18.2).bind (fun v22 =>
    if v22.1 = (-2) then
    xlet (w4 (y9 + 1)) (fun x24 =>
    lp_L_isCut_82 a p1 p4 p7 p8 n 1 x24 v22.2 X)
    else
    none)
    else
    none)
    else
    none))
    else
    xlet (w4 (y9 + 1)) (fun x25 =>
    lp_L_isCut_82 a p1 p4 p7 p8 n y6 x25 R X)
def lp_L_isCut_228 (a : Nat) (p1 : Int) (p4 : Int) (p7 : Int) (R : xN) : Nat → Int → Int → (Int → Int → Option (Bool × xN)) → Option (Bool × xN)
  | 0, _, _, _ => none
  | n + 1, y6, y9, X =>
    if p4 < y9 then
    X y6 y9
    else
    if y6 = 0 then
    X y6 y9
    else
    (f_X9_opening a y9 0 R).bind (fun v41 =>
    if v41 = 0 then
    (f_X9_opening a y9 2 R).bind (fun v43 =>
    if y9 = 0 then
    (f_X9_count a 13 R).bind (fun v45 =>
    if v43 = (w4 (1 * v45)) then
    xlet (w4 (y9 + 1)) (fun x47 =>
    lp_L_isCut_228 a p1 p4 p7 R n 1 x47 X)
    else
    none)
    else
    xlet (if y9 = p4 then 1 else 2) (fun t48 =>
    (f_X9_count a 13 R).bind (fun v49 =>
    if v43 = (w4 (t48 * v49)) then
    xlet (w4 (y9 + 1)) (fun x51 =>
    lp_L_isCut_228 a p1 p4 p7 R n 1 x51 X)
    else
    none)))
    else
    none)
def f_L_isCut (a : Nat) (i1 : Int) (i2 : Int) (i3 : Int) (R : xN) : Option (Bool × xN) :=
  xlet (w4 (i2 * i3)) (fun x1 =>
  lp_L_isCut_11 a i1 i2 i3 x1 R 6000 0 0 (fun z6 z7 =>
  if z6 = (w4 ((w4 (i2 * (w4 (i3 - 1)))) + (w4 (i3 * (w4 (i2 - 1)))))) then
  (f_X9_pieces a R).bind (fun v9 =>
  if v9 = 1 then
  (f_X9_cutsFor a i1 R).bind (fun v11 =>
  (f_X9_effort a 2 v11.2).bind (fun v12 =>
  lp_L_isCut_82 a i1 x1 v11.1 v12 6000 1 0 v11.2 (fun z26 z27 R28 =>
  if z26 = 0 then
  none
  else
  (f_X9_count a 6 R28).bind (fun v30 =>
  if v30 = v11.1 then
  (f_X9_effort a 2 R28).bind (fun v32 =>
  (f_L_ones v11.1 R28).bind (fun v33 =>
  if v32 = (w4 (v12 + (w4 (v33 * x1)))) then
  (f_X9_reading a 0 R28).bind (fun v35 =>
  if v35 = (w4 (2 * x1)) then
  (f_X9_reading a 1 R28).bind (fun v37 =>
  if v37 = (-9) then
  lp_L_isCut_228 a i1 x1 v11.1 R28 6000 1 0 (fun z52 z53 =>
  if z52 = 0 then
  some (false, R28)
  else
  if v11.1 = 0 then
  some (true, R28)
  else
  (f_X9_unfold a R28).bind (fun v56 =>
  if v56.1 = (-2) then
  (f_X9_fold a 1 v56.2).bind (fun v58 =>
  if v58.1 = (-2) then
  (f_X9_printAll a i1 v58.2).bind (fun v60 =>
  if v60.1 = (-2) then
  some (true, v60.2)
  else
  some (false, v60.2))
  else
  some (false, v58.2))
  else
  some (false, v56.2)))
  else
  none)
  else
  none)
  else
  none))
  else
  none))))
  else
  none)
  else
  none))
set_option maxRecDepth 20000 in
set_option maxHeartbeats 4000000 in
theorem lc_L_isCut_11 {l : Launch} {g : xG} {d : Nat} {A : xA} {a : Nat} (h_a : sh 9 A a) (p1 : Int) (p2 : Int) (p3 : Int) (p4 : Int) (R : xN) {X : Int → Int → Option (Bool × xN)} (hX : ∀ (y5 : Int) (y6 : Int), Ev l g (d + 6) mL_isCut 34 [xR a, xI p1, xI p2, xI p3, xI p4, xI y5, xU, xU, xU, xU, xU] [] A R (fun v : Bool × xN => some (xI (xz v.1))) (fun v => v.2) (X y5 y6)) (n : Nat) (y5 : Int) (y6 : Int) : Ev l g (d + 6) mL_isCut 11 [xR a, xI p1, xI p2, xI p3, xI p4, xI y5, xI y6, xU, xU, xU, xU] [] A R (fun v : Bool × xN => some (xI (xz v.1))) (fun v => v.2) (lp_L_isCut_11 a p1 p2 p3 p4 R n y5 y6 X) := by
  induction n generalizing y5 y6 with
  | zero => exact ev_none
  | succ n ih =>
    rw [lp_L_isCut_11]
    refine ev_st (pc' := 14) (L' := [xR a, xI p1, xI p2, xI p3, xI p4, xI y5, xI y6, xU, xU, xU, xU]) (st' := [xI 4, xI y6]) (fun _ _ _ k => e_iload dL_isCut_11 (i := 6) (x := y6) rfl (e_iconst dL_isCut_13 (k4 rfl) k)) ?_
    refine ev_br2 (P := 4 ≤ y6) (pct := 34) (pcf := 17) (st' := []) (fun _ _ _ kt kf => e_cge dL_isCut_14 (tgt := 34) rfl kt kf) (fun h2 => ?_) (fun h2 => ?_)
    · refine ev_st (pc' := 34) (L' := [xR a, xI p1, xI p2, xI p3, xI p4, xI y5, xU, xU, xU, xU, xU]) (st' := []) (fun _ _ _ k => e_fg [6] k) ?_
      exact hX y5 y6
    · refine ev_st (pc' := 22) (L' := [xR a, xI p1, xI p2, xI p3, xI p4, xI y5, xI y6, xU, xU, xU, xU]) (st' := [xI y6, xR a, xI y5]) (fun _ _ _ k => e_iload dL_isCut_17 (i := 5) (x := y5) rfl (e_aload_n dL_isCut_19 rfl (i := 0) (x := a) rfl (e_iload dL_isCut_20 (i := 6) (x := y6) rfl k))) ?_
      refine ev_callV (As := [xI y6]) (st := [xI y5]) (fun v3 => [xI v3, xI y5]) dL_isCut_22 mlL_38 (kd9_0 h_a) rfl rfl rfl rfl rfl rfl (c_X9_hanging (d := d + 2) h_a y6) (fun _ => trivial) (fun _ => rfl) (fun v3 => ?_)
      refine ev_st (pc' := 26) (L' := [xR a, xI p1, xI p2, xI p3, xI p4, xI y5, xI y6, xU, xU, xU, xU]) (st' := [xI (w4 (y5 + v3))]) (fun _ _ _ k => e_iadd dL_isCut_25 k) ?_
      refine ev_leti (fun x4 ex4 => ?_)
      refine ev_st (pc' := 28) (L' := [xR a, xI p1, xI p2, xI p3, xI p4, xI x4, xI y6, xU, xU, xU, xU]) (st' := []) (fun _ _ _ k => e_istore dL_isCut_26 (i := 5) rfl (L' := [xR a, xI p1, xI p2, xI p3, xI p4, xI x4, xI y6, xU, xU, xU, xU]) rfl k) ?_
      refine ev_letx (fun x5 ex5 => ?_)
      refine ev_st (pc' := 31) (L' := [xR a, xI p1, xI p2, xI p3, xI p4, xI x4, xI x5, xU, xU, xU, xU]) (st' := []) (fun _ _ _ k => e_iinc dL_isCut_28 (i := 6) rfl (x := y6) rfl (y := x5) ex5 (L' := [xR a, xI p1, xI p2, xI p3, xI p4, xI x4, xI x5, xU, xU, xU, xU]) rfl k) ?_
      refine ev_st (pc' := 11) (L' := [xR a, xI p1, xI p2, xI p3, xI p4, xI x4, xI x5, xU, xU, xU, xU]) (st' := []) (fun _ _ _ k => e_goto dL_isCut_31 (tgt := 11) rfl k) ?_
      exact ih x4 x5
set_option maxRecDepth 20000 in
set_option maxHeartbeats 4000000 in
theorem lc_L_isCut_82 {l : Launch} {g : xG} {d : Nat} {A : xA} {a : Nat} (h_a : sh 9 A a) (p1 : Int) (p4 : Int) (p7 : Int) (p8 : Int) {X : Int → Int → xN → Option (Bool × xN)} (hX : ∀ (y6 : Int) (y9 : Int) (R : xN), Ev l g (d + 6) mL_isCut 161 [xR a, xI p1, xU, xU, xI p4, xU, xI y6, xI p7, xI p8, xU, xU] [] A R (fun v : Bool × xN => some (xI (xz v.1))) (fun v => v.2) (X y6 y9 R)) (n : Nat) (y6 : Int) (y9 : Int) (R : xN) : Ev l g (d + 6) mL_isCut 82 [xR a, xI p1, xU, xU, xI p4, xU, xI y6, xI p7, xI p8, xI y9, xU] [] A R (fun v : Bool × xN => some (xI (xz v.1))) (fun v => v.2) (lp_L_isCut_82 a p1 p4 p7 p8 n y6 y9 R X) := by
  induction n generalizing y6 y9 R with
  | zero => exact ev_none
  | succ n ih =>
    rw [lp_L_isCut_82]
    refine ev_st (pc' := 85) (L' := [xR a, xI p1, xU, xU, xI p4, xU, xI y6, xI p7, xI p8, xI y9, xU]) (st' := [xI 4, xI y9]) (fun _ _ _ k => e_iload dL_isCut_82 (i := 9) (x := y9) rfl (e_iconst dL_isCut_84 (k4 rfl) k)) ?_
    refine ev_br2 (P := 4 ≤ y9) (pct := 161) (pcf := 88) (st' := []) (fun _ _ _ kt kf => e_cge dL_isCut_85 (tgt := 161) rfl kt kf) (fun h13 => ?_) (fun h13 => ?_)
    · refine ev_st (pc' := 161) (L' := [xR a, xI p1, xU, xU, xI p4, xU, xI y6, xI p7, xI p8, xU, xU]) (st' := []) (fun _ _ _ k => e_fg [9] k) ?_
      exact hX y6 y9 R
    · refine ev_st (pc' := 90) (L' := [xR a, xI p1, xU, xU, xI p4, xU, xI y6, xI p7, xI p8, xI y9, xU]) (st' := [xI y6]) (fun _ _ _ k => e_iload dL_isCut_88 (i := 6) (x := y6) rfl k) ?_
      refine ev_br2 (P := y6 = 0) (pct := 161) (pcf := 93) (st' := []) (fun _ _ _ kt kf => e_ifeq dL_isCut_90 (tgt := 161) rfl kt kf) (fun h14 => ?_) (fun h14 => ?_)
      · refine ev_st (pc' := 161) (L' := [xR a, xI p1, xU, xU, xI p4, xU, xI y6, xI p7, xI p8, xU, xU]) (st' := []) (fun _ _ _ k => e_fg [9] k) ?_
        exact hX y6 y9 R
      · refine ev_st (pc' := 101) (L' := [xR a, xI p1, xU, xU, xI p4, xU, xI y6, xI p7, xI p8, xI y9, xU]) (st' := [xI 1, xI (b4and (b4shr p7 y9) 1)]) (fun _ _ _ k => e_iload dL_isCut_93 (i := 7) (x := p7) rfl (e_iload dL_isCut_95 (i := 9) (x := y9) rfl (e_ishr dL_isCut_97 (e_iconst dL_isCut_98 (k4 rfl) (e_iand dL_isCut_99 (e_iconst dL_isCut_100 (k4 rfl) k)))))) ?_
        refine ev_br2 (P := (b4and (b4shr p7 y9) 1) = 1) (pct := 104) (pcf := 155) (st' := []) (fun _ _ _ kt kf => e_cne dL_isCut_101 (tgt := 155) rfl kt kf) (fun h15 => ?_) (fun h15 => ?_)
        · refine ev_st (pc' := 107) (L' := [xR a, xI p1, xU, xU, xI p4, xU, xI y6, xI p7, xI p8, xI y9, xU]) (st' := [xI y9, xR a]) (fun _ _ _ k => e_aload_n dL_isCut_104 rfl (i := 0) (x := a) rfl (e_iload dL_isCut_105 (i := 9) (x := y9) rfl k)) ?_
          refine ev_callV (As := [xI y9]) (st := []) (fun v16 => [xI v16]) dL_isCut_107 mlL_38 (kd9_0 h_a) rfl rfl rfl rfl rfl rfl (c_X9_hanging (d := d + 2) h_a y9) (fun _ => trivial) (fun _ => rfl) (fun v16 => ?_)
          refine ev_st (pc' := 114) (L' := [xR a, xI p1, xU, xU, xI p4, xU, xI y6, xI p7, xI p8, xI y9, xI v16]) (st' := [xI v16]) (fun _ _ _ k => e_istore dL_isCut_110 (i := 10) rfl (L' := [xR a, xI p1, xU, xU, xI p4, xU, xI y6, xI p7, xI p8, xI y9, xI v16]) rfl (e_iload dL_isCut_112 (i := 10) (x := v16) rfl k)) ?_
          refine ev_br2 (P := v16 ≤ 0) (pct := 152) (pcf := 117) (st' := []) (fun _ _ _ kt kf => e_ifle dL_isCut_114 (tgt := 152) rfl kt kf) (fun h17 => ?_) (fun h17 => ?_)
          · exact ev_none
          · refine ev_st (pc' := 120) (L' := [xR a, xI p1, xU, xU, xI p4, xU, xI y6, xI p7, xI p8, xI y9, xI v16]) (st' := [xI y9, xR a]) (fun _ _ _ k => e_aload_n dL_isCut_117 rfl (i := 0) (x := a) rfl (e_iload dL_isCut_118 (i := 9) (x := y9) rfl k)) ?_
            refine ev_callV (As := [xI y9]) (st := []) (fun v18 => [xI v18.1]) dL_isCut_120 mlL_48 (kd9_0 h_a) rfl rfl rfl rfl rfl rfl (c_X9_cut (d := d) h_a y9) (fun _ => trivial) (fun _ => rfl) (fun v18 => ?_)
            refine ev_st (pc' := 125) (L' := [xR a, xI p1, xU, xU, xI p4, xU, xI y6, xI p7, xI p8, xI y9, xI v16]) (st' := [xI v16, xI v18.1]) (fun _ _ _ k => e_iload dL_isCut_123 (i := 10) (x := v16) rfl k) ?_
            refine ev_br2 (P := v18.1 = v16) (pct := 128) (pcf := 152) (st' := []) (fun _ _ _ kt kf => e_cne dL_isCut_125 (tgt := 152) rfl kt kf) (fun h19 => ?_) (fun h19 => ?_)
            · refine ev_st (pc' := 131) (L' := [xR a, xI p1, xU, xU, xI p4, xU, xI y6, xI p7, xI p8, xI y9, xI v16]) (st' := [xI y9, xR a]) (fun _ _ _ k => e_aload_n dL_isCut_128 rfl (i := 0) (x := a) rfl (e_iload dL_isCut_129 (i := 9) (x := y9) rfl k)) ?_
              refine ev_callV (As := [xI y9]) (st := []) (fun v20 => [xI v20]) dL_isCut_131 mlL_38 (kd9_0 h_a) rfl rfl rfl rfl rfl rfl (c_X9_hanging (d := d + 2) h_a y9) (fun _ => trivial) (fun _ => rfl) (fun v20 => ?_)
              refine ev_br2 (P := v20 = 0) (pct := 137) (pcf := 152) (st' := []) (fun _ _ _ kt kf => e_ifne dL_isCut_134 (tgt := 152) rfl kt kf) (fun h21 => ?_) (fun h21 => ?_)
              · refine ev_st (pc' := 140) (L' := [xR a, xI p1, xU, xU, xI p4, xU, xI y6, xI p7, xI p8, xI y9, xI v16]) (st' := [xI y9, xR a]) (fun _ _ _ k => e_aload_n dL_isCut_137 rfl (i := 0) (x := a) rfl (e_iload dL_isCut_138 (i := 9) (x := y9) rfl k)) ?_
                refine ev_callV (As := [xI y9]) (st := []) (fun v22 => [xI v22.1]) dL_isCut_140 mlL_48 (kd9_0 h_a) rfl rfl rfl rfl rfl rfl (c_X9_cut (d := d) h_a y9) (fun _ => trivial) (fun _ => rfl) (fun v22 => ?_)
                refine ev_st (pc' := 145) (L' := [xR a, xI p1, xU, xU, xI p4, xU, xI y6, xI p7, xI p8, xI y9, xI v16]) (st' := [xI (-2), xI v22.1]) (fun _ _ _ k => e_bipush dL_isCut_143 rfl (k4 rfl) k) ?_
                refine ev_br2 (P := v22.1 = (-2)) (pct := 148) (pcf := 152) (st' := []) (fun _ _ _ kt kf => e_cne dL_isCut_145 (tgt := 152) rfl kt kf) (fun h23 => ?_) (fun h23 => ?_)
                · refine ev_st (pc' := 155) (L' := [xR a, xI p1, xU, xU, xI p4, xU, xI 1, xI p7, xI p8, xI y9, xI v16]) (st' := []) (fun _ _ _ k => e_iconst dL_isCut_148 (k4 rfl) (e_goto dL_isCut_149 (tgt := 153) rfl (e_istore dL_isCut_153 (i := 6) rfl (L' := [xR a, xI p1, xU, xU, xI p4, xU, xI 1, xI p7, xI p8, xI y9, xI v16]) rfl k))) ?_
                  refine ev_letx (fun x24 ex24 => ?_)
                  refine ev_st (pc' := 158) (L' := [xR a, xI p1, xU, xU, xI p4, xU, xI 1, xI p7, xI p8, xI x24, xI v16]) (st' := []) (fun _ _ _ k => e_iinc dL_isCut_155 (i := 9) rfl (x := y9) rfl (y := x24) ex24 (L' := [xR a, xI p1, xU, xU, xI p4, xU, xI 1, xI p7, xI p8, xI x24, xI v16]) rfl k) ?_
                  refine ev_st (pc' := 82) (L' := [xR a, xI p1, xU, xU, xI p4, xU, xI 1, xI p7, xI p8, xI x24, xU]) (st' := []) (fun _ _ _ k => e_goto dL_isCut_158 (tgt := 82) rfl (e_fg [10] k)) ?_
                  exact ih 1 x24 v22.2
                · exact ev_none
              · exact ev_none
            · exact ev_none
        · refine ev_letx (fun x25 ex25 => ?_)
          refine ev_st (pc' := 158) (L' := [xR a, xI p1, xU, xU, xI p4, xU, xI y6, xI p7, xI p8, xI x25, xU]) (st' := []) (fun _ _ _ k => e_iinc dL_isCut_155 (i := 9) rfl (x := y9) rfl (y := x25) ex25 (L' := [xR a, xI p1, xU, xU, xI p4, xU, xI y6, xI p7, xI p8, xI x25, xU]) rfl k) ?_
          refine ev_st (pc' := 82) (L' := [xR a, xI p1, xU, xU, xI p4, xU, xI y6, xI p7, xI p8, xI x25, xU]) (st' := []) (fun _ _ _ k => e_goto dL_isCut_158 (tgt := 82) rfl k) ?_
          exact ih y6 x25 R
set_option maxRecDepth 20000 in
set_option maxHeartbeats 4000000 in
theorem lc_L_isCut_228 {l : Launch} {g : xG} {d : Nat} {A : xA} {a : Nat} (h_a : sh 9 A a) (p1 : Int) (p4 : Int) (p7 : Int) (R : xN) {X : Int → Int → Option (Bool × xN)} (hX : ∀ (y6 : Int) (y9 : Int), Ev l g (d + 6) mL_isCut 297 [xR a, xI p1, xU, xU, xU, xU, xI y6, xI p7, xU, xU, xU] [] A R (fun v : Bool × xN => some (xI (xz v.1))) (fun v => v.2) (X y6 y9)) (n : Nat) (y6 : Int) (y9 : Int) : Ev l g (d + 6) mL_isCut 228 [xR a, xI p1, xU, xU, xI p4, xU, xI y6, xI p7, xU, xI y9, xU] [] A R (fun v : Bool × xN => some (xI (xz v.1))) (fun v => v.2) (lp_L_isCut_228 a p1 p4 p7 R n y6 y9 X) := by
  induction n generalizing y6 y9 with
  | zero => exact ev_none
  | succ n ih =>
    rw [lp_L_isCut_228]
    refine ev_st (pc' := 232) (L' := [xR a, xI p1, xU, xU, xI p4, xU, xI y6, xI p7, xU, xI y9, xU]) (st' := [xI p4, xI y9]) (fun _ _ _ k => e_iload dL_isCut_228 (i := 9) (x := y9) rfl (e_iload dL_isCut_230 (i := 4) (x := p4) rfl k)) ?_
    refine ev_br2 (P := p4 < y9) (pct := 297) (pcf := 235) (st' := []) (fun _ _ _ kt kf => e_cgt dL_isCut_232 (tgt := 297) rfl kt kf) (fun h39 => ?_) (fun h39 => ?_)
    · refine ev_st (pc' := 297) (L' := [xR a, xI p1, xU, xU, xU, xU, xI y6, xI p7, xU, xU, xU]) (st' := []) (fun _ _ _ k => e_fg [4, 9] k) ?_
      exact hX y6 y9
    · refine ev_st (pc' := 237) (L' := [xR a, xI p1, xU, xU, xI p4, xU, xI y6, xI p7, xU, xI y9, xU]) (st' := [xI y6]) (fun _ _ _ k => e_iload dL_isCut_235 (i := 6) (x := y6) rfl k) ?_
      refine ev_br2 (P := y6 = 0) (pct := 297) (pcf := 240) (st' := []) (fun _ _ _ kt kf => e_ifeq dL_isCut_237 (tgt := 297) rfl kt kf) (fun h40 => ?_) (fun h40 => ?_)
      · refine ev_st (pc' := 297) (L' := [xR a, xI p1, xU, xU, xU, xU, xI y6, xI p7, xU, xU, xU]) (st' := []) (fun _ _ _ k => e_fg [4, 9] k) ?_
        exact hX y6 y9
      · refine ev_st (pc' := 244) (L' := [xR a, xI p1, xU, xU, xI p4, xU, xI y6, xI p7, xU, xI y9, xU]) (st' := [xI 0, xI y9, xR a]) (fun _ _ _ k => e_aload_n dL_isCut_240 rfl (i := 0) (x := a) rfl (e_iload dL_isCut_241 (i := 9) (x := y9) rfl (e_iconst dL_isCut_243 (k4 rfl) k))) ?_
        refine ev_callV (As := [xI y9, xI 0]) (st := []) (fun v41 => [xI v41]) dL_isCut_244 mlL_28 (kd9_0 h_a) rfl rfl rfl rfl rfl rfl (c_X9_opening (d := d + 1) h_a y9 0) (fun _ => trivial) (fun _ => rfl) (fun v41 => ?_)
        refine ev_br2 (P := v41 = 0) (pct := 250) (pcf := 288) (st' := []) (fun _ _ _ kt kf => e_ifne dL_isCut_247 (tgt := 288) rfl kt kf) (fun h42 => ?_) (fun h42 => ?_)
        · refine ev_st (pc' := 254) (L' := [xR a, xI p1, xU, xU, xI p4, xU, xI y6, xI p7, xU, xI y9, xU]) (st' := [xI 2, xI y9, xR a]) (fun _ _ _ k => e_aload_n dL_isCut_250 rfl (i := 0) (x := a) rfl (e_iload dL_isCut_251 (i := 9) (x := y9) rfl (e_iconst dL_isCut_253 (k4 rfl) k))) ?_
          refine ev_callV (As := [xI y9, xI 2]) (st := []) (fun v43 => [xI v43]) dL_isCut_254 mlL_28 (kd9_0 h_a) rfl rfl rfl rfl rfl rfl (c_X9_opening (d := d + 1) h_a y9 2) (fun _ => trivial) (fun _ => rfl) (fun v43 => ?_)
          refine ev_st (pc' := 259) (L' := [xR a, xI p1, xU, xU, xI p4, xU, xI y6, xI p7, xU, xI y9, xU]) (st' := [xI y9, xI v43]) (fun _ _ _ k => e_iload dL_isCut_257 (i := 9) (x := y9) rfl k) ?_
          refine ev_br2 (P := y9 = 0) (pct := 269) (pcf := 262) (st' := [xI v43]) (fun _ _ _ kt kf => e_ifeq dL_isCut_259 (tgt := 269) rfl kt kf) (fun h44 => ?_) (fun h44 => ?_)
          · refine ev_st (pc' := 277) (L' := [xR a, xI p1, xU, xU, xI p4, xU, xI y6, xI p7, xU, xI y9, xU]) (st' := [xI 13, xR a, xI 1, xI v43]) (fun _ _ _ k => e_iconst dL_isCut_269 (k4 rfl) (e_goto dL_isCut_270 (tgt := 274) rfl (e_aload_n dL_isCut_274 rfl (i := 0) (x := a) rfl (e_bipush dL_isCut_275 rfl (k4 rfl) k)))) ?_
            refine ev_callV (As := [xI 13]) (st := [xI 1, xI v43]) (fun v45 => [xI v45, xI 1, xI v43]) dL_isCut_277 mlL_9 (kd9_0 h_a) rfl rfl rfl rfl rfl rfl (c_X9_count (d := d + 4) h_a 13) (fun _ => trivial) (fun _ => rfl) (fun v45 => ?_)
            refine ev_st (pc' := 281) (L' := [xR a, xI p1, xU, xU, xI p4, xU, xI y6, xI p7, xU, xI y9, xU]) (st' := [xI (w4 (1 * v45)), xI v43]) (fun _ _ _ k => e_imul dL_isCut_280 k) ?_
            refine ev_br2 (P := v43 = (w4 (1 * v45))) (pct := 284) (pcf := 288) (st' := []) (fun _ _ _ kt kf => e_cne dL_isCut_281 (tgt := 288) rfl kt kf) (fun h46 => ?_) (fun h46 => ?_)
            · refine ev_st (pc' := 291) (L' := [xR a, xI p1, xU, xU, xI p4, xU, xI 1, xI p7, xU, xI y9, xU]) (st' := []) (fun _ _ _ k => e_iconst dL_isCut_284 (k4 rfl) (e_goto dL_isCut_285 (tgt := 289) rfl (e_istore dL_isCut_289 (i := 6) rfl (L' := [xR a, xI p1, xU, xU, xI p4, xU, xI 1, xI p7, xU, xI y9, xU]) rfl k))) ?_
              refine ev_letx (fun x47 ex47 => ?_)
              refine ev_st (pc' := 294) (L' := [xR a, xI p1, xU, xU, xI p4, xU, xI 1, xI p7, xU, xI x47, xU]) (st' := []) (fun _ _ _ k => e_iinc dL_isCut_291 (i := 9) rfl (x := y9) rfl (y := x47) ex47 (L' := [xR a, xI p1, xU, xU, xI p4, xU, xI 1, xI p7, xU, xI x47, xU]) rfl k) ?_
              refine ev_st (pc' := 228) (L' := [xR a, xI p1, xU, xU, xI p4, xU, xI 1, xI p7, xU, xI x47, xU]) (st' := []) (fun _ _ _ k => e_goto dL_isCut_294 (tgt := 228) rfl k) ?_
              exact ih 1 x47
            · exact ev_none
          · refine ev_st (pc' := 266) (L' := [xR a, xI p1, xU, xU, xI p4, xU, xI y6, xI p7, xU, xI y9, xU]) (st' := [xI p4, xI y9, xI v43]) (fun _ _ _ k => e_iload dL_isCut_262 (i := 9) (x := y9) rfl (e_iload dL_isCut_264 (i := 4) (x := p4) rfl k)) ?_
            refine ev_tern (P := y9 = p4) (a := 1) (b := 2) (pct := 269) (pcf := 273) (J := 274) (st' := [xI v43]) (fun _ _ _ kt kf => e_cne dL_isCut_266 (tgt := 273) rfl kt kf) (fun _ _ _ k => e_iconst dL_isCut_269 (k4 rfl) (e_goto dL_isCut_270 (tgt := 274) rfl k)) (fun _ _ _ k => e_iconst dL_isCut_273 (k4 rfl) k) (fun t48 et48 => ?_)
            refine ev_st (pc' := 277) (L' := [xR a, xI p1, xU, xU, xI p4, xU, xI y6, xI p7, xU, xI y9, xU]) (st' := [xI 13, xR a, xI t48, xI v43]) (fun _ _ _ k => e_aload_n dL_isCut_274 rfl (i := 0) (x := a) rfl (e_bipush dL_isCut_275 rfl (k4 rfl) k)) ?_
            refine ev_callV (As := [xI 13]) (st := [xI t48, xI v43]) (fun v49 => [xI v49, xI t48, xI v43]) dL_isCut_277 mlL_9 (kd9_0 h_a) rfl rfl rfl rfl rfl rfl (c_X9_count (d := d + 4) h_a 13) (fun _ => trivial) (fun _ => rfl) (fun v49 => ?_)
            refine ev_st (pc' := 281) (L' := [xR a, xI p1, xU, xU, xI p4, xU, xI y6, xI p7, xU, xI y9, xU]) (st' := [xI (w4 (t48 * v49)), xI v43]) (fun _ _ _ k => e_imul dL_isCut_280 k) ?_
            refine ev_br2 (P := v43 = (w4 (t48 * v49))) (pct := 284) (pcf := 288) (st' := []) (fun _ _ _ kt kf => e_cne dL_isCut_281 (tgt := 288) rfl kt kf) (fun h50 => ?_) (fun h50 => ?_)
            · refine ev_st (pc' := 291) (L' := [xR a, xI p1, xU, xU, xI p4, xU, xI 1, xI p7, xU, xI y9, xU]) (st' := []) (fun _ _ _ k => e_iconst dL_isCut_284 (k4 rfl) (e_goto dL_isCut_285 (tgt := 289) rfl (e_istore dL_isCut_289 (i := 6) rfl (L' := [xR a, xI p1, xU, xU, xI p4, xU, xI 1, xI p7, xU, xI y9, xU]) rfl k))) ?_
              refine ev_letx (fun x51 ex51 => ?_)
              refine ev_st (pc' := 294) (L' := [xR a, xI p1, xU, xU, xI p4, xU, xI 1, xI p7, xU, xI x51, xU]) (st' := []) (fun _ _ _ k => e_iinc dL_isCut_291 (i := 9) rfl (x := y9) rfl (y := x51) ex51 (L' := [xR a, xI p1, xU, xU, xI p4, xU, xI 1, xI p7, xU, xI x51, xU]) rfl k) ?_
              refine ev_st (pc' := 228) (L' := [xR a, xI p1, xU, xU, xI p4, xU, xI 1, xI p7, xU, xI x51, xU]) (st' := []) (fun _ _ _ k => e_goto dL_isCut_294 (tgt := 228) rfl k) ?_
              exact ih 1 x51
            · exact ev_none
        · exact ev_none
set_option maxRecDepth 20000 in
set_option maxHeartbeats 4000000 in
theorem c_L_isCut {l : Launch} {g : xG} {d : Nat} {A : xA} {R : xN} {a : Nat} (h_a : sh 9 A a) (i1 : Int) (i2 : Int) (i3 : Int) : Ev l g (d + 6) mL_isCut 0 [xR a, xI i1, xI i2, xI i3, xU, xU, xU, xU, xU, xU, xU] [] A R (fun v : Bool × xN => some (xI (xz v.1))) (fun v => v.2) (f_L_isCut a i1 i2 i3 R) := by
  rw [f_L_isCut]
  refine ev_st (pc' := 3) (L' := [xR a, xI i1, xI i2, xI i3, xU, xU, xU, xU, xU, xU, xU]) (st' := [xI (w4 (i2 * i3))]) (fun _ _ _ k => e_iload_n dL_isCut_0 rfl (i := 2) (x := i2) rfl (e_iload_n dL_isCut_1 rfl (i := 3) (x := i3) rfl (e_imul dL_isCut_2 k))) ?_
  refine ev_leti (fun x1 ex1 => ?_)
  refine ev_st (pc' := 5) (L' := [xR a, xI i1, xI i2, xI i3, xI x1, xU, xU, xU, xU, xU, xU]) (st' := []) (fun _ _ _ k => e_istore dL_isCut_3 (i := 4) rfl (L' := [xR a, xI i1, xI i2, xI i3, xI x1, xU, xU, xU, xU, xU, xU]) rfl k) ?_
  refine ev_st (pc' := 11) (L' := [xR a, xI i1, xI i2, xI i3, xI x1, xI 0, xI 0, xU, xU, xU, xU]) (st' := []) (fun _ _ _ k => e_iconst dL_isCut_5 (k4 rfl) (e_istore dL_isCut_6 (i := 5) rfl (L' := [xR a, xI i1, xI i2, xI i3, xI x1, xI 0, xU, xU, xU, xU, xU]) rfl (e_iconst dL_isCut_8 (k4 rfl) (e_istore dL_isCut_9 (i := 6) rfl (L' := [xR a, xI i1, xI i2, xI i3, xI x1, xI 0, xI 0, xU, xU, xU, xU]) rfl k)))) ?_
  refine lc_L_isCut_11 h_a i1 i2 i3 x1 R (fun z6 z7 => ?_) 6000 0 0
  refine ev_st (pc' := 47) (L' := [xR a, xI i1, xI i2, xI i3, xI x1, xI z6, xU, xU, xU, xU, xU]) (st' := [xI (w4 ((w4 (i2 * (w4 (i3 - 1)))) + (w4 (i3 * (w4 (i2 - 1)))))), xI z6]) (fun _ _ _ k => e_iload dL_isCut_34 (i := 5) (x := z6) rfl (e_iload_n dL_isCut_36 rfl (i := 2) (x := i2) rfl (e_iload_n dL_isCut_37 rfl (i := 3) (x := i3) rfl (e_iconst dL_isCut_38 (k4 rfl) (e_isub dL_isCut_39 (e_imul dL_isCut_40 (e_iload_n dL_isCut_41 rfl (i := 3) (x := i3) rfl (e_iload_n dL_isCut_42 rfl (i := 2) (x := i2) rfl (e_iconst dL_isCut_43 (k4 rfl) (e_isub dL_isCut_44 (e_imul dL_isCut_45 (e_iadd dL_isCut_46 k)))))))))))) ?_
  refine ev_br2 (P := z6 = (w4 ((w4 (i2 * (w4 (i3 - 1)))) + (w4 (i3 * (w4 (i2 - 1))))))) (pct := 50) (pcf := 62) (st' := []) (fun _ _ _ kt kf => e_cne dL_isCut_47 (tgt := 62) rfl kt kf) (fun h8 => ?_) (fun h8 => ?_)
  · refine ev_st (pc' := 51) (L' := [xR a, xI i1, xI i2, xI i3, xI x1, xI z6, xU, xU, xU, xU, xU]) (st' := [xR a]) (fun _ _ _ k => e_aload_n dL_isCut_50 rfl (i := 0) (x := a) rfl k) ?_
    refine ev_callV (As := []) (st := []) (fun v9 => [xI v9]) dL_isCut_51 mlL_41 (kd9_0 h_a) rfl rfl rfl rfl rfl rfl (c_X9_pieces (d := d) h_a) (fun _ => trivial) (fun _ => rfl) (fun v9 => ?_)
    refine ev_st (pc' := 55) (L' := [xR a, xI i1, xI i2, xI i3, xI x1, xI z6, xU, xU, xU, xU, xU]) (st' := [xI 1, xI v9]) (fun _ _ _ k => e_iconst dL_isCut_54 (k4 rfl) k) ?_
    refine ev_br2 (P := v9 = 1) (pct := 58) (pcf := 62) (st' := []) (fun _ _ _ kt kf => e_cne dL_isCut_55 (tgt := 62) rfl kt kf) (fun h10 => ?_) (fun h10 => ?_)
    · refine ev_st (pc' := 67) (L' := [xR a, xI i1, xI i2, xI i3, xI x1, xI z6, xI 1, xU, xU, xU, xU]) (st' := [xI i1, xR a]) (fun _ _ _ k => e_iconst dL_isCut_58 (k4 rfl) (e_goto dL_isCut_59 (tgt := 63) rfl (e_istore dL_isCut_63 (i := 6) rfl (L' := [xR a, xI i1, xI i2, xI i3, xI x1, xI z6, xI 1, xU, xU, xU, xU]) rfl (e_aload_n dL_isCut_65 rfl (i := 0) (x := a) rfl (e_iload_n dL_isCut_66 rfl (i := 1) (x := i1) rfl k))))) ?_
      refine ev_callV (As := [xI i1]) (st := []) (fun v11 => [xI v11.1]) dL_isCut_67 mlL_45 (kd9_0 h_a) rfl rfl rfl rfl rfl rfl (c_X9_cutsFor (d := d) h_a i1) (fun _ => trivial) (fun _ => rfl) (fun v11 => ?_)
      refine ev_st (pc' := 74) (L' := [xR a, xI i1, xI i2, xI i3, xI x1, xI z6, xI 1, xI v11.1, xU, xU, xU]) (st' := [xI 2, xR a]) (fun _ _ _ k => e_istore dL_isCut_70 (i := 7) rfl (L' := [xR a, xI i1, xI i2, xI i3, xI x1, xI z6, xI 1, xI v11.1, xU, xU, xU]) rfl (e_aload_n dL_isCut_72 rfl (i := 0) (x := a) rfl (e_iconst dL_isCut_73 (k4 rfl) k))) ?_
      refine ev_callV (As := [xI 2]) (st := []) (fun v12 => [xI v12]) dL_isCut_74 mlL_15 (kd9_0 h_a) rfl rfl rfl rfl rfl rfl (c_X9_effort (d := d + 3) h_a 2) (fun _ => trivial) (fun _ => rfl) (fun v12 => ?_)
      refine ev_st (pc' := 82) (L' := [xR a, xI i1, xU, xU, xI x1, xU, xI 1, xI v11.1, xI v12, xI 0, xU]) (st' := []) (fun _ _ _ k => e_istore dL_isCut_77 (i := 8) rfl (L' := [xR a, xI i1, xI i2, xI i3, xI x1, xI z6, xI 1, xI v11.1, xI v12, xU, xU]) rfl (e_iconst dL_isCut_79 (k4 rfl) (e_istore dL_isCut_80 (i := 9) rfl (L' := [xR a, xI i1, xI i2, xI i3, xI x1, xI z6, xI 1, xI v11.1, xI v12, xI 0, xU]) rfl (e_fg [2, 3, 5] k)))) ?_
      refine lc_L_isCut_82 h_a i1 x1 v11.1 v12 (fun z26 z27 R28 => ?_) 6000 1 0 v11.2
      refine ev_st (pc' := 163) (L' := [xR a, xI i1, xU, xU, xI x1, xU, xI z26, xI v11.1, xI v12, xU, xU]) (st' := [xI z26]) (fun _ _ _ k => e_iload dL_isCut_161 (i := 6) (x := z26) rfl k) ?_
      refine ev_br2 (P := z26 = 0) (pct := 222) (pcf := 166) (st' := []) (fun _ _ _ kt kf => e_ifeq dL_isCut_163 (tgt := 222) rfl kt kf) (fun h29 => ?_) (fun h29 => ?_)
      · exact ev_none
      · refine ev_st (pc' := 169) (L' := [xR a, xI i1, xU, xU, xI x1, xU, xI z26, xI v11.1, xI v12, xU, xU]) (st' := [xI 6, xR a]) (fun _ _ _ k => e_aload_n dL_isCut_166 rfl (i := 0) (x := a) rfl (e_bipush dL_isCut_167 rfl (k4 rfl) k)) ?_
        refine ev_callV (As := [xI 6]) (st := []) (fun v30 => [xI v30]) dL_isCut_169 mlL_9 (kd9_0 h_a) rfl rfl rfl rfl rfl rfl (c_X9_count (d := d + 4) h_a 6) (fun _ => trivial) (fun _ => rfl) (fun v30 => ?_)
        refine ev_st (pc' := 174) (L' := [xR a, xI i1, xU, xU, xI x1, xU, xI z26, xI v11.1, xI v12, xU, xU]) (st' := [xI v11.1, xI v30]) (fun _ _ _ k => e_iload dL_isCut_172 (i := 7) (x := v11.1) rfl k) ?_
        refine ev_br2 (P := v30 = v11.1) (pct := 177) (pcf := 222) (st' := []) (fun _ _ _ kt kf => e_cne dL_isCut_174 (tgt := 222) rfl kt kf) (fun h31 => ?_) (fun h31 => ?_)
        · refine ev_st (pc' := 179) (L' := [xR a, xI i1, xU, xU, xI x1, xU, xI z26, xI v11.1, xI v12, xU, xU]) (st' := [xI 2, xR a]) (fun _ _ _ k => e_aload_n dL_isCut_177 rfl (i := 0) (x := a) rfl (e_iconst dL_isCut_178 (k4 rfl) k)) ?_
          refine ev_callV (As := [xI 2]) (st := []) (fun v32 => [xI v32]) dL_isCut_179 mlL_15 (kd9_0 h_a) rfl rfl rfl rfl rfl rfl (c_X9_effort (d := d + 3) h_a 2) (fun _ => trivial) (fun _ => rfl) (fun v32 => ?_)
          refine ev_st (pc' := 186) (L' := [xR a, xI i1, xU, xU, xI x1, xU, xI z26, xI v11.1, xI v12, xU, xU]) (st' := [xI v11.1, xI v12, xI v32]) (fun _ _ _ k => e_iload dL_isCut_182 (i := 8) (x := v12) rfl (e_iload dL_isCut_184 (i := 7) (x := v11.1) rfl k)) ?_
          refine ev_callS (As := [xI v11.1]) (st := [xI v12, xI v32]) (fun v33 => [xI v33, xI v12, xI v32]) dL_isCut_186 mlL_51 rfl rfl rfl rfl rfl rfl (c_L_ones (d := d + 5) v11.1) (fun _ => trivial) (fun _ => rfl) (fun v33 => ?_)
          refine ev_st (pc' := 193) (L' := [xR a, xI i1, xU, xU, xI x1, xU, xI z26, xI v11.1, xI v12, xU, xU]) (st' := [xI (w4 (v12 + (w4 (v33 * x1)))), xI v32]) (fun _ _ _ k => e_iload dL_isCut_189 (i := 4) (x := x1) rfl (e_imul dL_isCut_191 (e_iadd dL_isCut_192 k))) ?_
          refine ev_br2 (P := v32 = (w4 (v12 + (w4 (v33 * x1))))) (pct := 196) (pcf := 222) (st' := []) (fun _ _ _ kt kf => e_cne dL_isCut_193 (tgt := 222) rfl kt kf) (fun h34 => ?_) (fun h34 => ?_)
          · refine ev_st (pc' := 198) (L' := [xR a, xI i1, xU, xU, xI x1, xU, xI z26, xI v11.1, xI v12, xU, xU]) (st' := [xI 0, xR a]) (fun _ _ _ k => e_aload_n dL_isCut_196 rfl (i := 0) (x := a) rfl (e_iconst dL_isCut_197 (k4 rfl) k)) ?_
            refine ev_callV (As := [xI 0]) (st := []) (fun v35 => [xI v35]) dL_isCut_198 mlL_35 (kd9_0 h_a) rfl rfl rfl rfl rfl rfl (c_X9_reading (d := d) h_a 0) (fun _ => trivial) (fun _ => rfl) (fun v35 => ?_)
            refine ev_st (pc' := 205) (L' := [xR a, xI i1, xU, xU, xI x1, xU, xI z26, xI v11.1, xI v12, xU, xU]) (st' := [xI (w4 (2 * x1)), xI v35]) (fun _ _ _ k => e_iconst dL_isCut_201 (k4 rfl) (e_iload dL_isCut_202 (i := 4) (x := x1) rfl (e_imul dL_isCut_204 k))) ?_
            refine ev_br2 (P := v35 = (w4 (2 * x1))) (pct := 208) (pcf := 222) (st' := []) (fun _ _ _ kt kf => e_cne dL_isCut_205 (tgt := 222) rfl kt kf) (fun h36 => ?_) (fun h36 => ?_)
            · refine ev_st (pc' := 210) (L' := [xR a, xI i1, xU, xU, xI x1, xU, xI z26, xI v11.1, xI v12, xU, xU]) (st' := [xI 1, xR a]) (fun _ _ _ k => e_aload_n dL_isCut_208 rfl (i := 0) (x := a) rfl (e_iconst dL_isCut_209 (k4 rfl) k)) ?_
              refine ev_callV (As := [xI 1]) (st := []) (fun v37 => [xI v37]) dL_isCut_210 mlL_35 (kd9_0 h_a) rfl rfl rfl rfl rfl rfl (c_X9_reading (d := d) h_a 1) (fun _ => trivial) (fun _ => rfl) (fun v37 => ?_)
              refine ev_st (pc' := 215) (L' := [xR a, xI i1, xU, xU, xI x1, xU, xI z26, xI v11.1, xI v12, xU, xU]) (st' := [xI (-9), xI v37]) (fun _ _ _ k => e_bipush dL_isCut_213 rfl (k4 rfl) k) ?_
              refine ev_br2 (P := v37 = (-9)) (pct := 218) (pcf := 222) (st' := []) (fun _ _ _ kt kf => e_cne dL_isCut_215 (tgt := 222) rfl kt kf) (fun h38 => ?_) (fun h38 => ?_)
              · refine ev_st (pc' := 228) (L' := [xR a, xI i1, xU, xU, xI x1, xU, xI 1, xI v11.1, xU, xI 0, xU]) (st' := []) (fun _ _ _ k => e_iconst dL_isCut_218 (k4 rfl) (e_goto dL_isCut_219 (tgt := 223) rfl (e_istore dL_isCut_223 (i := 6) rfl (L' := [xR a, xI i1, xU, xU, xI x1, xU, xI 1, xI v11.1, xI v12, xU, xU]) rfl (e_iconst dL_isCut_225 (k4 rfl) (e_istore dL_isCut_226 (i := 9) rfl (L' := [xR a, xI i1, xU, xU, xI x1, xU, xI 1, xI v11.1, xI v12, xI 0, xU]) rfl (e_fg [8] k)))))) ?_
                refine lc_L_isCut_228 h_a i1 x1 v11.1 R28 (fun z52 z53 => ?_) 6000 1 0
                refine ev_st (pc' := 299) (L' := [xR a, xI i1, xU, xU, xU, xU, xI z52, xI v11.1, xU, xU, xU]) (st' := [xI z52]) (fun _ _ _ k => e_iload dL_isCut_297 (i := 6) (x := z52) rfl k) ?_
                refine ev_br2 (P := z52 = 0) (pct := 340) (pcf := 302) (st' := []) (fun _ _ _ kt kf => e_ifeq dL_isCut_299 (tgt := 340) rfl kt kf) (fun h54 => ?_) (fun h54 => ?_)
                · exact ev_ret (e_iconst dL_isCut_340 (k4 rfl) (e_iret dL_isCut_341))
                · refine ev_st (pc' := 304) (L' := [xR a, xI i1, xU, xU, xU, xU, xI z52, xI v11.1, xU, xU, xU]) (st' := [xI v11.1]) (fun _ _ _ k => e_iload dL_isCut_302 (i := 7) (x := v11.1) rfl k) ?_
                  refine ev_br2 (P := v11.1 = 0) (pct := 336) (pcf := 307) (st' := []) (fun _ _ _ kt kf => e_ifeq dL_isCut_304 (tgt := 336) rfl kt kf) (fun h55 => ?_) (fun h55 => ?_)
                  · exact ev_ret (e_iconst dL_isCut_336 (k4 rfl) (e_goto dL_isCut_337 (tgt := 341) rfl (e_iret dL_isCut_341)))
                  · refine ev_st (pc' := 308) (L' := [xR a, xI i1, xU, xU, xU, xU, xI z52, xI v11.1, xU, xU, xU]) (st' := [xR a]) (fun _ _ _ k => e_aload_n dL_isCut_307 rfl (i := 0) (x := a) rfl k) ?_
                    refine ev_callV (As := []) (st := []) (fun v56 => [xI v56.1]) dL_isCut_308 mlL_56 (kd9_0 h_a) rfl rfl rfl rfl rfl rfl (c_X9_unfold (d := d) h_a) (fun _ => trivial) (fun _ => rfl) (fun v56 => ?_)
                    refine ev_st (pc' := 313) (L' := [xR a, xI i1, xU, xU, xU, xU, xI z52, xI v11.1, xU, xU, xU]) (st' := [xI (-2), xI v56.1]) (fun _ _ _ k => e_bipush dL_isCut_311 rfl (k4 rfl) k) ?_
                    refine ev_br2 (P := v56.1 = (-2)) (pct := 316) (pcf := 340) (st' := []) (fun _ _ _ kt kf => e_cne dL_isCut_313 (tgt := 340) rfl kt kf) (fun h57 => ?_) (fun h57 => ?_)
                    · refine ev_st (pc' := 318) (L' := [xR a, xI i1, xU, xU, xU, xU, xI z52, xI v11.1, xU, xU, xU]) (st' := [xI 1, xR a]) (fun _ _ _ k => e_aload_n dL_isCut_316 rfl (i := 0) (x := a) rfl (e_iconst dL_isCut_317 (k4 rfl) k)) ?_
                      refine ev_callV (As := [xI 1]) (st := []) (fun v58 => [xI v58.1]) dL_isCut_318 mlL_18 (kd9_0 h_a) rfl rfl rfl rfl rfl rfl (c_X9_fold (d := d) h_a 1) (fun _ => trivial) (fun _ => rfl) (fun v58 => ?_)
                      refine ev_st (pc' := 323) (L' := [xR a, xI i1, xU, xU, xU, xU, xI z52, xI v11.1, xU, xU, xU]) (st' := [xI (-2), xI v58.1]) (fun _ _ _ k => e_bipush dL_isCut_321 rfl (k4 rfl) k) ?_
                      refine ev_br2 (P := v58.1 = (-2)) (pct := 326) (pcf := 340) (st' := []) (fun _ _ _ kt kf => e_cne dL_isCut_323 (tgt := 340) rfl kt kf) (fun h59 => ?_) (fun h59 => ?_)
                      · refine ev_st (pc' := 328) (L' := [xR a, xI i1, xU, xU, xU, xU, xI z52, xI v11.1, xU, xU, xU]) (st' := [xI i1, xR a]) (fun _ _ _ k => e_aload_n dL_isCut_326 rfl (i := 0) (x := a) rfl (e_iload_n dL_isCut_327 rfl (i := 1) (x := i1) rfl k)) ?_
                        refine ev_callV (As := [xI i1]) (st := []) (fun v60 => [xI v60.1]) dL_isCut_328 mlL_59 (kd9_0 h_a) rfl rfl rfl rfl rfl rfl (c_X9_printAll (d := d) h_a i1) (fun _ => trivial) (fun _ => rfl) (fun v60 => ?_)
                        refine ev_st (pc' := 333) (L' := [xR a, xI i1, xU, xU, xU, xU, xI z52, xI v11.1, xU, xU, xU]) (st' := [xI (-2), xI v60.1]) (fun _ _ _ k => e_bipush dL_isCut_331 rfl (k4 rfl) k) ?_
                        refine ev_br2 (P := v60.1 = (-2)) (pct := 336) (pcf := 340) (st' := []) (fun _ _ _ kt kf => e_cne dL_isCut_333 (tgt := 340) rfl kt kf) (fun h61 => ?_) (fun h61 => ?_)
                        · exact ev_ret (e_iconst dL_isCut_336 (k4 rfl) (e_goto dL_isCut_337 (tgt := 341) rfl (e_iret dL_isCut_341)))
                        · exact ev_ret (e_iconst dL_isCut_340 (k4 rfl) (e_iret dL_isCut_341))
                      · exact ev_ret (e_iconst dL_isCut_340 (k4 rfl) (e_iret dL_isCut_341))
                    · exact ev_ret (e_iconst dL_isCut_340 (k4 rfl) (e_iret dL_isCut_341))
              · exact ev_none
            · exact ev_none
          · exact ev_none
        · exact ev_none
    · exact ev_none
  · exact ev_none
def lp_L_isHeld_2 (a : Nat) (p1 : Int) (p2 : Int) : Nat → Int → xN → (Int → xN → Option (Bool × xN)) → Option (Bool × xN)
  | 0, _, _, _ => none
  | n + 1, y3, R, X =>
    if 4 ≤ y3 then
    X y3 R
    else
    (f_X9_cut a y3 R).bind (fun v2 =>
    if 0 ≤ v2.1 then
    xlet (w4 (y3 + 1)) (fun x4 =>
    lp_L_isHeld_2 a p1 p2 n x4 v2.2 X)
    else
    if v2.1 = (-2) then
    xlet (w4 (y3 + 1)) (fun x6 =>
    lp_L_isHeld_2 a p1 p2 n x6 v2.2 X)
    else
    some (false, v2.2))
def f_L_isHeld (a : Nat) (i1 : Int) (i2 : Int) (R : xN) : Option (Bool × xN) :=
  lp_L_isHeld_2 a i1 i2 6000 0 R (fun z7 R8 =>
  xlet (w4 (1 + (Int.tmod i2 16))) (fun x9 =>
  (f_X9_pieces a R8).bind (fun v10 =>
  if v10 = i1 then
  (f_X9_setLegs a x9 R8).bind (fun v12 =>
  if v12.1 = 4 then
  (f_X9_staple a (Int.tmod i2 10) v12.2).bind (fun v14 =>
  xlet (if i1 ≤ x9 then i1 else x9) (fun t15 =>
  if v14.1 = t15 then
  (f_X9_staple a (Int.tmod i2 10) v14.2).bind (fun v17 =>
  if v17.1 = (-2) then
  (f_X9_pieces a v17.2).bind (fun v19 =>
  xlet (if i1 ≤ x9 then 1 else (w4 ((w4 (i1 - x9)) + 1))) (fun t20 =>
  if v19 = t20 then
  (f_X9_effort a 3 v17.2).bind (fun v22 =>
  if v22 = 3 then
  (f_X9_setSpine a 0 v17.2).bind (fun v24 =>
  if v24.1 = (-2) then
  (f_X9_unstaple a (Int.tmod i2 10) v24.2).bind (fun v26 =>
  if v26.1 = 0 then
  (f_X9_effort a 3 v26.2).bind (fun v28 =>
  if v28 = 4 then
  (f_X9_pieces a v26.2).bind (fun v30 =>
  if v30 = i1 then
  (f_X9_undo a v26.2).bind (fun v32 =>
  if v32.1 < 0 then
  none
  else
  (f_X9_count a 7 v32.2).bind (fun v34 =>
  if v34 = 1 then
  (f_X9_undo a v32.2).bind (fun v36 =>
  if v36.1 < 0 then
  none
  else
  (f_X9_count a 7 v36.2).bind (fun v38 =>
  if v38 = 0 then
  (f_X9_undo a v36.2).bind (fun v40 =>
  if v40.1 < 0 then
  some (false, v40.2)
  else
  (f_X9_count a 14 v40.2).bind (fun v42 =>
  if v42 = 4 then
  some (true, v40.2)
  else
  some (false, v40.2)))
  else
  none))
  else
  none))
  else
  none)
  else
  none)
  else
  none)
  else
  none)
  else
  none)
  else
  none))
  else
  none)
  else
  none))
  else
  none)
  else
  none)))
set_option maxRecDepth 20000 in
set_option maxHeartbeats 4000000 in
theorem lc_L_isHeld_2 {l : Launch} {g : xG} {d : Nat} {A : xA} {a : Nat} (h_a : sh 9 A a) (p1 : Int) (p2 : Int) {X : Int → xN → Option (Bool × xN)} (hX : ∀ (y3 : Int) (R : xN), Ev l g (d + 7) mL_isHeld 34 [xR a, xI p1, xI p2, xU, xU] [] A R (fun v : Bool × xN => some (xI (xz v.1))) (fun v => v.2) (X y3 R)) (n : Nat) (y3 : Int) (R : xN) : Ev l g (d + 7) mL_isHeld 2 [xR a, xI p1, xI p2, xI y3, xU] [] A R (fun v : Bool × xN => some (xI (xz v.1))) (fun v => v.2) (lp_L_isHeld_2 a p1 p2 n y3 R X) := by
  induction n generalizing y3 R with
  | zero => exact ev_none
  | succ n ih =>
    rw [lp_L_isHeld_2]
    refine ev_st (pc' := 4) (L' := [xR a, xI p1, xI p2, xI y3, xU]) (st' := [xI 4, xI y3]) (fun _ _ _ k => e_iload_n dL_isHeld_2 rfl (i := 3) (x := y3) rfl (e_iconst dL_isHeld_3 (k4 rfl) k)) ?_
    refine ev_br2 (P := 4 ≤ y3) (pct := 34) (pcf := 7) (st' := []) (fun _ _ _ kt kf => e_cge dL_isHeld_4 (tgt := 34) rfl kt kf) (fun h1 => ?_) (fun h1 => ?_)
    · refine ev_st (pc' := 34) (L' := [xR a, xI p1, xI p2, xU, xU]) (st' := []) (fun _ _ _ k => e_fg [3] k) ?_
      exact hX y3 R
    · refine ev_st (pc' := 9) (L' := [xR a, xI p1, xI p2, xI y3, xU]) (st' := [xI y3, xR a]) (fun _ _ _ k => e_aload_n dL_isHeld_7 rfl (i := 0) (x := a) rfl (e_iload_n dL_isHeld_8 rfl (i := 3) (x := y3) rfl k)) ?_
      refine ev_callV (As := [xI y3]) (st := []) (fun v2 => [xI v2.1]) dL_isHeld_9 mlL_48 (kd9_0 h_a) rfl rfl rfl rfl rfl rfl (c_X9_cut (d := d + 1) h_a y3) (fun _ => trivial) (fun _ => rfl) (fun v2 => ?_)
      refine ev_st (pc' := 16) (L' := [xR a, xI p1, xI p2, xI y3, xI v2.1]) (st' := [xI v2.1]) (fun _ _ _ k => e_istore dL_isHeld_12 (i := 4) rfl (L' := [xR a, xI p1, xI p2, xI y3, xI v2.1]) rfl (e_iload dL_isHeld_14 (i := 4) (x := v2.1) rfl k)) ?_
      refine ev_br2 (P := 0 ≤ v2.1) (pct := 28) (pcf := 19) (st' := []) (fun _ _ _ kt kf => e_ifge dL_isHeld_16 (tgt := 28) rfl kt kf) (fun h3 => ?_) (fun h3 => ?_)
      · refine ev_letx (fun x4 ex4 => ?_)
        refine ev_st (pc' := 31) (L' := [xR a, xI p1, xI p2, xI x4, xI v2.1]) (st' := []) (fun _ _ _ k => e_iinc dL_isHeld_28 (i := 3) rfl (x := y3) rfl (y := x4) ex4 (L' := [xR a, xI p1, xI p2, xI x4, xI v2.1]) rfl k) ?_
        refine ev_st (pc' := 2) (L' := [xR a, xI p1, xI p2, xI x4, xU]) (st' := []) (fun _ _ _ k => e_goto dL_isHeld_31 (tgt := 2) rfl (e_fg [4] k)) ?_
        exact ih x4 v2.2
      · refine ev_st (pc' := 23) (L' := [xR a, xI p1, xI p2, xI y3, xI v2.1]) (st' := [xI (-2), xI v2.1]) (fun _ _ _ k => e_iload dL_isHeld_19 (i := 4) (x := v2.1) rfl (e_bipush dL_isHeld_21 rfl (k4 rfl) k)) ?_
        refine ev_br2 (P := v2.1 = (-2)) (pct := 28) (pcf := 26) (st' := []) (fun _ _ _ kt kf => e_ceq dL_isHeld_23 (tgt := 28) rfl kt kf) (fun h5 => ?_) (fun h5 => ?_)
        · refine ev_letx (fun x6 ex6 => ?_)
          refine ev_st (pc' := 31) (L' := [xR a, xI p1, xI p2, xI x6, xI v2.1]) (st' := []) (fun _ _ _ k => e_iinc dL_isHeld_28 (i := 3) rfl (x := y3) rfl (y := x6) ex6 (L' := [xR a, xI p1, xI p2, xI x6, xI v2.1]) rfl k) ?_
          refine ev_st (pc' := 2) (L' := [xR a, xI p1, xI p2, xI x6, xU]) (st' := []) (fun _ _ _ k => e_goto dL_isHeld_31 (tgt := 2) rfl (e_fg [4] k)) ?_
          exact ih x6 v2.2
        · exact ev_ret (e_iconst dL_isHeld_26 (k4 rfl) (e_iret dL_isHeld_27))
set_option maxRecDepth 20000 in
set_option maxHeartbeats 4000000 in
theorem c_L_isHeld {l : Launch} {g : xG} {d : Nat} {A : xA} {R : xN} {a : Nat} (h_a : sh 9 A a) (i1 : Int) (i2 : Int) : Ev l g (d + 7) mL_isHeld 0 [xR a, xI i1, xI i2, xU, xU] [] A R (fun v : Bool × xN => some (xI (xz v.1))) (fun v => v.2) (f_L_isHeld a i1 i2 R) := by
  rw [f_L_isHeld]
  refine ev_st (pc' := 2) (L' := [xR a, xI i1, xI i2, xI 0, xU]) (st' := []) (fun _ _ _ k => e_iconst dL_isHeld_0 (k4 rfl) (e_istore_n dL_isHeld_1 rfl (i := 3) rfl (L' := [xR a, xI i1, xI i2, xI 0, xU]) rfl k)) ?_
  refine lc_L_isHeld_2 h_a i1 i2 (fun z7 R8 => ?_) 6000 0 R
  refine ev_st (pc' := 40) (L' := [xR a, xI i1, xI i2, xU, xU]) (st' := [xI (w4 (1 + (Int.tmod i2 16)))]) (fun _ _ _ k => e_iconst dL_isHeld_34 (k4 rfl) (e_iload_n dL_isHeld_35 rfl (i := 2) (x := i2) rfl (e_bipush dL_isHeld_36 rfl (k4 rfl) (e_irem dL_isHeld_38 (by decide) (e_iadd dL_isHeld_39 k))))) ?_
  refine ev_leti (fun x9 ex9 => ?_)
  refine ev_st (pc' := 41) (L' := [xR a, xI i1, xI i2, xI x9, xU]) (st' := []) (fun _ _ _ k => e_istore_n dL_isHeld_40 rfl (i := 3) rfl (L' := [xR a, xI i1, xI i2, xI x9, xU]) rfl k) ?_
  refine ev_st (pc' := 42) (L' := [xR a, xI i1, xI i2, xI x9, xU]) (st' := [xR a]) (fun _ _ _ k => e_aload_n dL_isHeld_41 rfl (i := 0) (x := a) rfl k) ?_
  refine ev_callV (As := []) (st := []) (fun v10 => [xI v10]) dL_isHeld_42 mlL_41 (kd9_0 h_a) rfl rfl rfl rfl rfl rfl (c_X9_pieces (d := d + 1) h_a) (fun _ => trivial) (fun _ => rfl) (fun v10 => ?_)
  refine ev_st (pc' := 46) (L' := [xR a, xI i1, xI i2, xI x9, xU]) (st' := [xI i1, xI v10]) (fun _ _ _ k => e_iload_n dL_isHeld_45 rfl (i := 1) (x := i1) rfl k) ?_
  refine ev_br2 (P := v10 = i1) (pct := 49) (pcf := 96) (st' := []) (fun _ _ _ kt kf => e_cne dL_isHeld_46 (tgt := 96) rfl kt kf) (fun h11 => ?_) (fun h11 => ?_)
  · refine ev_st (pc' := 51) (L' := [xR a, xI i1, xI i2, xI x9, xU]) (st' := [xI x9, xR a]) (fun _ _ _ k => e_aload_n dL_isHeld_49 rfl (i := 0) (x := a) rfl (e_iload_n dL_isHeld_50 rfl (i := 3) (x := x9) rfl k)) ?_
    refine ev_callV (As := [xI x9]) (st := []) (fun v12 => [xI v12.1]) dL_isHeld_51 mlL_62 (kd9_0 h_a) rfl rfl rfl rfl rfl rfl (c_X9_setLegs (d := d + 1) h_a x9) (fun _ => trivial) (fun _ => rfl) (fun v12 => ?_)
    refine ev_st (pc' := 55) (L' := [xR a, xI i1, xI i2, xI x9, xU]) (st' := [xI 4, xI v12.1]) (fun _ _ _ k => e_iconst dL_isHeld_54 (k4 rfl) k) ?_
    refine ev_br2 (P := v12.1 = 4) (pct := 58) (pcf := 96) (st' := []) (fun _ _ _ kt kf => e_cne dL_isHeld_55 (tgt := 96) rfl kt kf) (fun h13 => ?_) (fun h13 => ?_)
    · refine ev_st (pc' := 63) (L' := [xR a, xI i1, xI i2, xI x9, xU]) (st' := [xI (Int.tmod i2 10), xR a]) (fun _ _ _ k => e_aload_n dL_isHeld_58 rfl (i := 0) (x := a) rfl (e_iload_n dL_isHeld_59 rfl (i := 2) (x := i2) rfl (e_bipush dL_isHeld_60 rfl (k4 rfl) (e_irem dL_isHeld_62 (by decide) k)))) ?_
      refine ev_callV (As := [xI (Int.tmod i2 10)]) (st := []) (fun v14 => [xI v14.1]) dL_isHeld_63 mlL_65 (kd9_0 h_a) rfl rfl rfl rfl rfl rfl (c_X9_staple (d := d + 1) h_a (Int.tmod i2 10)) (fun _ => trivial) (fun _ => rfl) (fun v14 => ?_)
      refine ev_st (pc' := 68) (L' := [xR a, xI i1, xI i2, xI x9, xU]) (st' := [xI i1, xI x9, xI v14.1]) (fun _ _ _ k => e_iload_n dL_isHeld_66 rfl (i := 3) (x := x9) rfl (e_iload_n dL_isHeld_67 rfl (i := 1) (x := i1) rfl k)) ?_
      refine ev_tern (P := i1 ≤ x9) (a := i1) (b := x9) (pct := 75) (pcf := 71) (J := 76) (st' := [xI v14.1]) (fun _ _ _ kt kf => e_cge dL_isHeld_68 (tgt := 75) rfl kt kf) (fun _ _ _ k => e_iload_n dL_isHeld_75 rfl (i := 1) (x := i1) rfl k) (fun _ _ _ k => e_iload_n dL_isHeld_71 rfl (i := 3) (x := x9) rfl (e_goto dL_isHeld_72 (tgt := 76) rfl k)) (fun t15 et15 => ?_)
      refine ev_br2 (P := v14.1 = t15) (pct := 79) (pcf := 96) (st' := []) (fun _ _ _ kt kf => e_cne dL_isHeld_76 (tgt := 96) rfl kt kf) (fun h16 => ?_) (fun h16 => ?_)
      · refine ev_st (pc' := 84) (L' := [xR a, xI i1, xI i2, xI x9, xU]) (st' := [xI (Int.tmod i2 10), xR a]) (fun _ _ _ k => e_aload_n dL_isHeld_79 rfl (i := 0) (x := a) rfl (e_iload_n dL_isHeld_80 rfl (i := 2) (x := i2) rfl (e_bipush dL_isHeld_81 rfl (k4 rfl) (e_irem dL_isHeld_83 (by decide) k)))) ?_
        refine ev_callV (As := [xI (Int.tmod i2 10)]) (st := []) (fun v17 => [xI v17.1]) dL_isHeld_84 mlL_65 (kd9_0 h_a) rfl rfl rfl rfl rfl rfl (c_X9_staple (d := d + 1) h_a (Int.tmod i2 10)) (fun _ => trivial) (fun _ => rfl) (fun v17 => ?_)
        refine ev_st (pc' := 89) (L' := [xR a, xI i1, xI i2, xI x9, xU]) (st' := [xI (-2), xI v17.1]) (fun _ _ _ k => e_bipush dL_isHeld_87 rfl (k4 rfl) k) ?_
        refine ev_br2 (P := v17.1 = (-2)) (pct := 92) (pcf := 96) (st' := []) (fun _ _ _ kt kf => e_cne dL_isHeld_89 (tgt := 96) rfl kt kf) (fun h18 => ?_) (fun h18 => ?_)
        · refine ev_st (pc' := 104) (L' := [xR a, xI i1, xI i2, xI x9, xI 1]) (st' := []) (fun _ _ _ k => e_iconst dL_isHeld_92 (k4 rfl) (e_goto dL_isHeld_93 (tgt := 97) rfl (e_istore dL_isHeld_97 (i := 4) rfl (L' := [xR a, xI i1, xI i2, xI x9, xI 1]) rfl (e_iload dL_isHeld_99 (i := 4) (x := 1) rfl (e_ifeqF dL_isHeld_101 (tgt := 148) rfl (by decide) k))))) ?_
          refine ev_st (pc' := 105) (L' := [xR a, xI i1, xI i2, xI x9, xI 1]) (st' := [xR a]) (fun _ _ _ k => e_aload_n dL_isHeld_104 rfl (i := 0) (x := a) rfl k) ?_
          refine ev_callV (As := []) (st := []) (fun v19 => [xI v19]) dL_isHeld_105 mlL_41 (kd9_0 h_a) rfl rfl rfl rfl rfl rfl (c_X9_pieces (d := d + 1) h_a) (fun _ => trivial) (fun _ => rfl) (fun v19 => ?_)
          refine ev_st (pc' := 110) (L' := [xR a, xI i1, xI i2, xI x9, xI 1]) (st' := [xI i1, xI x9, xI v19]) (fun _ _ _ k => e_iload_n dL_isHeld_108 rfl (i := 3) (x := x9) rfl (e_iload_n dL_isHeld_109 rfl (i := 1) (x := i1) rfl k)) ?_
          refine ev_tern (P := i1 ≤ x9) (a := 1) (b := (w4 ((w4 (i1 - x9)) + 1))) (pct := 121) (pcf := 113) (J := 122) (st' := [xI v19]) (fun _ _ _ kt kf => e_cge dL_isHeld_110 (tgt := 121) rfl kt kf) (fun _ _ _ k => e_iconst dL_isHeld_121 (k4 rfl) k) (fun _ _ _ k => e_iload_n dL_isHeld_113 rfl (i := 1) (x := i1) rfl (e_iload_n dL_isHeld_114 rfl (i := 3) (x := x9) rfl (e_isub dL_isHeld_115 (e_iconst dL_isHeld_116 (k4 rfl) (e_iadd dL_isHeld_117 (e_goto dL_isHeld_118 (tgt := 122) rfl k)))))) (fun t20 et20 => ?_)
          refine ev_br2 (P := v19 = t20) (pct := 125) (pcf := 148) (st' := []) (fun _ _ _ kt kf => e_cne dL_isHeld_122 (tgt := 148) rfl kt kf) (fun h21 => ?_) (fun h21 => ?_)
          · refine ev_st (pc' := 127) (L' := [xR a, xI i1, xI i2, xI x9, xI 1]) (st' := [xI 3, xR a]) (fun _ _ _ k => e_aload_n dL_isHeld_125 rfl (i := 0) (x := a) rfl (e_iconst dL_isHeld_126 (k4 rfl) k)) ?_
            refine ev_callV (As := [xI 3]) (st := []) (fun v22 => [xI v22]) dL_isHeld_127 mlL_15 (kd9_0 h_a) rfl rfl rfl rfl rfl rfl (c_X9_effort (d := d + 4) h_a 3) (fun _ => trivial) (fun _ => rfl) (fun v22 => ?_)
            refine ev_st (pc' := 131) (L' := [xR a, xI i1, xI i2, xI x9, xI 1]) (st' := [xI 3, xI v22]) (fun _ _ _ k => e_iconst dL_isHeld_130 (k4 rfl) k) ?_
            refine ev_br2 (P := v22 = 3) (pct := 134) (pcf := 148) (st' := []) (fun _ _ _ kt kf => e_cne dL_isHeld_131 (tgt := 148) rfl kt kf) (fun h23 => ?_) (fun h23 => ?_)
            · refine ev_st (pc' := 136) (L' := [xR a, xI i1, xI i2, xI x9, xI 1]) (st' := [xI 0, xR a]) (fun _ _ _ k => e_aload_n dL_isHeld_134 rfl (i := 0) (x := a) rfl (e_iconst dL_isHeld_135 (k4 rfl) k)) ?_
              refine ev_callV (As := [xI 0]) (st := []) (fun v24 => [xI v24.1]) dL_isHeld_136 mlL_68 (kd9_0 h_a) rfl rfl rfl rfl rfl rfl (c_X9_setSpine (d := d + 1) h_a 0) (fun _ => trivial) (fun _ => rfl) (fun v24 => ?_)
              refine ev_st (pc' := 141) (L' := [xR a, xI i1, xI i2, xI x9, xI 1]) (st' := [xI (-2), xI v24.1]) (fun _ _ _ k => e_bipush dL_isHeld_139 rfl (k4 rfl) k) ?_
              refine ev_br2 (P := v24.1 = (-2)) (pct := 144) (pcf := 148) (st' := []) (fun _ _ _ kt kf => e_cne dL_isHeld_141 (tgt := 148) rfl kt kf) (fun h25 => ?_) (fun h25 => ?_)
              · refine ev_st (pc' := 156) (L' := [xR a, xI i1, xI i2, xI x9, xI 1]) (st' := []) (fun _ _ _ k => e_iconst dL_isHeld_144 (k4 rfl) (e_goto dL_isHeld_145 (tgt := 149) rfl (e_istore dL_isHeld_149 (i := 4) rfl (L' := [xR a, xI i1, xI i2, xI x9, xI 1]) rfl (e_iload dL_isHeld_151 (i := 4) (x := 1) rfl (e_ifeqF dL_isHeld_153 (tgt := 221) rfl (by decide) k))))) ?_
                refine ev_st (pc' := 161) (L' := [xR a, xI i1, xI i2, xI x9, xI 1]) (st' := [xI (Int.tmod i2 10), xR a]) (fun _ _ _ k => e_aload_n dL_isHeld_156 rfl (i := 0) (x := a) rfl (e_iload_n dL_isHeld_157 rfl (i := 2) (x := i2) rfl (e_bipush dL_isHeld_158 rfl (k4 rfl) (e_irem dL_isHeld_160 (by decide) k)))) ?_
                refine ev_callV (As := [xI (Int.tmod i2 10)]) (st := []) (fun v26 => [xI v26.1]) dL_isHeld_161 mlL_71 (kd9_0 h_a) rfl rfl rfl rfl rfl rfl (c_X9_unstaple (d := d + 1) h_a (Int.tmod i2 10)) (fun _ => trivial) (fun _ => rfl) (fun v26 => ?_)
                refine ev_br2 (P := v26.1 = 0) (pct := 167) (pcf := 221) (st' := []) (fun _ _ _ kt kf => e_ifne dL_isHeld_164 (tgt := 221) rfl kt kf) (fun h27 => ?_) (fun h27 => ?_)
                · refine ev_st (pc' := 169) (L' := [xR a, xI i1, xI i2, xI x9, xI 1]) (st' := [xI 3, xR a]) (fun _ _ _ k => e_aload_n dL_isHeld_167 rfl (i := 0) (x := a) rfl (e_iconst dL_isHeld_168 (k4 rfl) k)) ?_
                  refine ev_callV (As := [xI 3]) (st := []) (fun v28 => [xI v28]) dL_isHeld_169 mlL_15 (kd9_0 h_a) rfl rfl rfl rfl rfl rfl (c_X9_effort (d := d + 4) h_a 3) (fun _ => trivial) (fun _ => rfl) (fun v28 => ?_)
                  refine ev_st (pc' := 173) (L' := [xR a, xI i1, xI i2, xI x9, xI 1]) (st' := [xI 4, xI v28]) (fun _ _ _ k => e_iconst dL_isHeld_172 (k4 rfl) k) ?_
                  refine ev_br2 (P := v28 = 4) (pct := 176) (pcf := 221) (st' := []) (fun _ _ _ kt kf => e_cne dL_isHeld_173 (tgt := 221) rfl kt kf) (fun h29 => ?_) (fun h29 => ?_)
                  · refine ev_st (pc' := 177) (L' := [xR a, xI i1, xI i2, xI x9, xI 1]) (st' := [xR a]) (fun _ _ _ k => e_aload_n dL_isHeld_176 rfl (i := 0) (x := a) rfl k) ?_
                    refine ev_callV (As := []) (st := []) (fun v30 => [xI v30]) dL_isHeld_177 mlL_41 (kd9_0 h_a) rfl rfl rfl rfl rfl rfl (c_X9_pieces (d := d + 1) h_a) (fun _ => trivial) (fun _ => rfl) (fun v30 => ?_)
                    refine ev_st (pc' := 181) (L' := [xR a, xI i1, xI i2, xI x9, xI 1]) (st' := [xI i1, xI v30]) (fun _ _ _ k => e_iload_n dL_isHeld_180 rfl (i := 1) (x := i1) rfl k) ?_
                    refine ev_br2 (P := v30 = i1) (pct := 184) (pcf := 221) (st' := []) (fun _ _ _ kt kf => e_cne dL_isHeld_181 (tgt := 221) rfl kt kf) (fun h31 => ?_) (fun h31 => ?_)
                    · refine ev_st (pc' := 185) (L' := [xR a, xI i1, xI i2, xI x9, xI 1]) (st' := [xR a]) (fun _ _ _ k => e_aload_n dL_isHeld_184 rfl (i := 0) (x := a) rfl k) ?_
                      refine ev_callV (As := []) (st := []) (fun v32 => [xI v32.1]) dL_isHeld_185 mlL_74 (kd9_0 h_a) rfl rfl rfl rfl rfl rfl (c_X9_undo (d := d) h_a) (fun _ => trivial) (fun _ => rfl) (fun v32 => ?_)
                      refine ev_br2 (P := v32.1 < 0) (pct := 221) (pcf := 191) (st' := []) (fun _ _ _ kt kf => e_iflt dL_isHeld_188 (tgt := 221) rfl kt kf) (fun h33 => ?_) (fun h33 => ?_)
                      · exact ev_none
                      · refine ev_st (pc' := 194) (L' := [xR a, xI i1, xI i2, xI x9, xI 1]) (st' := [xI 7, xR a]) (fun _ _ _ k => e_aload_n dL_isHeld_191 rfl (i := 0) (x := a) rfl (e_bipush dL_isHeld_192 rfl (k4 rfl) k)) ?_
                        refine ev_callV (As := [xI 7]) (st := []) (fun v34 => [xI v34]) dL_isHeld_194 mlL_9 (kd9_0 h_a) rfl rfl rfl rfl rfl rfl (c_X9_count (d := d + 5) h_a 7) (fun _ => trivial) (fun _ => rfl) (fun v34 => ?_)
                        refine ev_st (pc' := 198) (L' := [xR a, xI i1, xI i2, xI x9, xI 1]) (st' := [xI 1, xI v34]) (fun _ _ _ k => e_iconst dL_isHeld_197 (k4 rfl) k) ?_
                        refine ev_br2 (P := v34 = 1) (pct := 201) (pcf := 221) (st' := []) (fun _ _ _ kt kf => e_cne dL_isHeld_198 (tgt := 221) rfl kt kf) (fun h35 => ?_) (fun h35 => ?_)
                        · refine ev_st (pc' := 202) (L' := [xR a, xI i1, xI i2, xI x9, xI 1]) (st' := [xR a]) (fun _ _ _ k => e_aload_n dL_isHeld_201 rfl (i := 0) (x := a) rfl k) ?_
                          refine ev_callV (As := []) (st := []) (fun v36 => [xI v36.1]) dL_isHeld_202 mlL_74 (kd9_0 h_a) rfl rfl rfl rfl rfl rfl (c_X9_undo (d := d) h_a) (fun _ => trivial) (fun _ => rfl) (fun v36 => ?_)
                          refine ev_br2 (P := v36.1 < 0) (pct := 221) (pcf := 208) (st' := []) (fun _ _ _ kt kf => e_iflt dL_isHeld_205 (tgt := 221) rfl kt kf) (fun h37 => ?_) (fun h37 => ?_)
                          · exact ev_none
                          · refine ev_st (pc' := 211) (L' := [xR a, xI i1, xI i2, xI x9, xI 1]) (st' := [xI 7, xR a]) (fun _ _ _ k => e_aload_n dL_isHeld_208 rfl (i := 0) (x := a) rfl (e_bipush dL_isHeld_209 rfl (k4 rfl) k)) ?_
                            refine ev_callV (As := [xI 7]) (st := []) (fun v38 => [xI v38]) dL_isHeld_211 mlL_9 (kd9_0 h_a) rfl rfl rfl rfl rfl rfl (c_X9_count (d := d + 5) h_a 7) (fun _ => trivial) (fun _ => rfl) (fun v38 => ?_)
                            refine ev_br2 (P := v38 = 0) (pct := 217) (pcf := 221) (st' := []) (fun _ _ _ kt kf => e_ifne dL_isHeld_214 (tgt := 221) rfl kt kf) (fun h39 => ?_) (fun h39 => ?_)
                            · refine ev_st (pc' := 229) (L' := [xR a, xI i1, xI i2, xI x9, xI 1]) (st' := []) (fun _ _ _ k => e_iconst dL_isHeld_217 (k4 rfl) (e_goto dL_isHeld_218 (tgt := 222) rfl (e_istore dL_isHeld_222 (i := 4) rfl (L' := [xR a, xI i1, xI i2, xI x9, xI 1]) rfl (e_iload dL_isHeld_224 (i := 4) (x := 1) rfl (e_ifeqF dL_isHeld_226 (tgt := 250) rfl (by decide) k))))) ?_
                              refine ev_st (pc' := 230) (L' := [xR a, xI i1, xI i2, xI x9, xI 1]) (st' := [xR a]) (fun _ _ _ k => e_aload_n dL_isHeld_229 rfl (i := 0) (x := a) rfl k) ?_
                              refine ev_callV (As := []) (st := []) (fun v40 => [xI v40.1]) dL_isHeld_230 mlL_74 (kd9_0 h_a) rfl rfl rfl rfl rfl rfl (c_X9_undo (d := d) h_a) (fun _ => trivial) (fun _ => rfl) (fun v40 => ?_)
                              refine ev_br2 (P := v40.1 < 0) (pct := 250) (pcf := 236) (st' := []) (fun _ _ _ kt kf => e_iflt dL_isHeld_233 (tgt := 250) rfl kt kf) (fun h41 => ?_) (fun h41 => ?_)
                              · exact ev_ret (e_iconst dL_isHeld_250 (k4 rfl) (e_iret dL_isHeld_251))
                              · refine ev_st (pc' := 239) (L' := [xR a, xI i1, xI i2, xI x9, xI 1]) (st' := [xI 14, xR a]) (fun _ _ _ k => e_aload_n dL_isHeld_236 rfl (i := 0) (x := a) rfl (e_bipush dL_isHeld_237 rfl (k4 rfl) k)) ?_
                                refine ev_callV (As := [xI 14]) (st := []) (fun v42 => [xI v42]) dL_isHeld_239 mlL_9 (kd9_0 h_a) rfl rfl rfl rfl rfl rfl (c_X9_count (d := d + 5) h_a 14) (fun _ => trivial) (fun _ => rfl) (fun v42 => ?_)
                                refine ev_st (pc' := 243) (L' := [xR a, xI i1, xI i2, xI x9, xI 1]) (st' := [xI 4, xI v42]) (fun _ _ _ k => e_iconst dL_isHeld_242 (k4 rfl) k) ?_
                                refine ev_br2 (P := v42 = 4) (pct := 246) (pcf := 250) (st' := []) (fun _ _ _ kt kf => e_cne dL_isHeld_243 (tgt := 250) rfl kt kf) (fun h43 => ?_) (fun h43 => ?_)
                                · exact ev_ret (e_iconst dL_isHeld_246 (k4 rfl) (e_goto dL_isHeld_247 (tgt := 251) rfl (e_iret dL_isHeld_251)))
                                · exact ev_ret (e_iconst dL_isHeld_250 (k4 rfl) (e_iret dL_isHeld_251))
                            · exact ev_none
                        · exact ev_none
                    · exact ev_none
                  · exact ev_none
                · exact ev_none
              · exact ev_none
            · exact ev_none
          · exact ev_none
        · exact ev_none
      · exact ev_none
    · exact ev_none
  · exact ev_none
