/-! The law, behind the constructor. -/
abbrev mL_law (nm : String) : xM := (⟨RL, nm, "([I)Z"⟩, cL_law, 12, some .boolean)
set_option maxRecDepth 20000 in
theorem mcL_cell : xMc mL_cell 2 := ⟨wG_t 600 (by decide +kernel) (by decide +kernel), wG_t 0 (by decide +kernel) (by decide +kernel), ⟨by decide +kernel, by decide +kernel, by decide +kernel⟩, by decide +kernel, rfl⟩
set_option maxRecDepth 20000 in
theorem mlL_78 : xMS RL 78 mL_cell 2 := ⟨mcL_cell, wG_t 598 (by decide +kernel) (by decide +kernel), wG_t 599 (by decide +kernel) (by decide +kernel)⟩
set_option maxRecDepth 20000 in
theorem mcL_foldsBy : xMc mL_foldsBy 3 := ⟨wG_t 605 (by decide +kernel) (by decide +kernel), wG_t 0 (by decide +kernel) (by decide +kernel), ⟨by decide +kernel, by decide +kernel, by decide +kernel⟩, by decide +kernel, rfl⟩
set_option maxRecDepth 20000 in
theorem mlL_82 : xMS RL 82 mL_foldsBy 3 := ⟨mcL_foldsBy, wG_t 603 (by decide +kernel) (by decide +kernel), wG_t 604 (by decide +kernel) (by decide +kernel)⟩
set_option maxRecDepth 20000 in
theorem mcX9_setSheet : xMc mX9_setSheet 2 := ⟨wG_t 302 (by decide +kernel) (by decide +kernel), wG_t 1 (by decide +kernel) (by decide +kernel), ⟨by decide +kernel, by decide +kernel, by decide +kernel⟩, by decide +kernel, rfl⟩
set_option maxRecDepth 20000 in
theorem mlL_86 : xMV RL 86 mX9_setSheet 2 9 := ⟨mcX9_setSheet, wG_t 299 (by decide +kernel) (by decide +kernel), wG_t 300 (by decide +kernel) (by decide +kernel), wG_t 301 (by decide +kernel) (by decide +kernel), rfl⟩
set_option maxRecDepth 20000 in
theorem mlL_89 : xMV RL 89 mX9_readsBy 1 9 := ⟨mcX9_readsBy, wG_t 544 (by decide +kernel) (by decide +kernel), wG_t 545 (by decide +kernel) (by decide +kernel), wG_t 546 (by decide +kernel) (by decide +kernel), rfl⟩
set_option maxRecDepth 20000 in
theorem mcX9_see : xMc mX9_see 3 := ⟨wG_t 455 (by decide +kernel) (by decide +kernel), wG_t 1 (by decide +kernel) (by decide +kernel), ⟨by decide +kernel, by decide +kernel, by decide +kernel⟩, by decide +kernel, rfl⟩
set_option maxRecDepth 20000 in
theorem mlL_92 : xMV RL 92 mX9_see 3 9 := ⟨mcX9_see, wG_t 452 (by decide +kernel) (by decide +kernel), wG_t 453 (by decide +kernel) (by decide +kernel), wG_t 454 (by decide +kernel) (by decide +kernel), rfl⟩
set_option maxRecDepth 20000 in
theorem mcX9_fitting : xMc mX9_fitting 1 := ⟨wG_t 515 (by decide +kernel) (by decide +kernel), wG_t 1 (by decide +kernel) (by decide +kernel), ⟨by decide +kernel, by decide +kernel, by decide +kernel⟩, by decide +kernel, rfl⟩
set_option maxRecDepth 20000 in
theorem mlL_95 : xMV RL 95 mX9_fitting 1 9 := ⟨mcX9_fitting, wG_t 512 (by decide +kernel) (by decide +kernel), wG_t 513 (by decide +kernel) (by decide +kernel), wG_t 514 (by decide +kernel) (by decide +kernel), rfl⟩
set_option maxRecDepth 20000 in
theorem mcX9_best : xMc mX9_best 1 := ⟨wG_t 591 (by decide +kernel) (by decide +kernel), wG_t 1 (by decide +kernel) (by decide +kernel), ⟨by decide +kernel, by decide +kernel, by decide +kernel⟩, by decide +kernel, rfl⟩
set_option maxRecDepth 20000 in
theorem mlL_98 : xMV RL 98 mX9_best 1 9 := ⟨mcX9_best, wG_t 588 (by decide +kernel) (by decide +kernel), wG_t 589 (by decide +kernel) (by decide +kernel), wG_t 590 (by decide +kernel) (by decide +kernel), rfl⟩
set_option maxRecDepth 20000 in
theorem mcX9_take : xMc mX9_take 1 := ⟨wG_t 477 (by decide +kernel) (by decide +kernel), wG_t 1 (by decide +kernel) (by decide +kernel), ⟨by decide +kernel, by decide +kernel, by decide +kernel⟩, by decide +kernel, rfl⟩
set_option maxRecDepth 20000 in
theorem mlL_101 : xMV RL 101 mX9_take 1 9 := ⟨mcX9_take, wG_t 474 (by decide +kernel) (by decide +kernel), wG_t 475 (by decide +kernel) (by decide +kernel), wG_t 476 (by decide +kernel) (by decide +kernel), rfl⟩
set_option maxRecDepth 20000 in
theorem mcL_folds : xMc mL_folds 3 := ⟨wG_t 611 (by decide +kernel) (by decide +kernel), wG_t 0 (by decide +kernel) (by decide +kernel), ⟨by decide +kernel, by decide +kernel, by decide +kernel⟩, by decide +kernel, rfl⟩
set_option maxRecDepth 20000 in
theorem mlL_104 : xMS RL 104 mL_folds 3 := ⟨mcL_folds, wG_t 609 (by decide +kernel) (by decide +kernel), wG_t 610 (by decide +kernel) (by decide +kernel)⟩
set_option maxRecDepth 20000 in
theorem mcL_isRead : xMc mL_isRead 2 := ⟨wG_t 625 (by decide +kernel) (by decide +kernel), wG_t 0 (by decide +kernel) (by decide +kernel), ⟨by decide +kernel, by decide +kernel, by decide +kernel⟩, by decide +kernel, rfl⟩
set_option maxRecDepth 20000 in
theorem mlL_108 : xMS RL 108 mL_isRead 2 := ⟨mcL_isRead, wG_t 623 (by decide +kernel) (by decide +kernel), wG_t 624 (by decide +kernel) (by decide +kernel)⟩
set_option maxRecDepth 20000 in
theorem mcL_isCut : xMc mL_isCut 4 := ⟨wG_t 766 (by decide +kernel) (by decide +kernel), wG_t 0 (by decide +kernel) (by decide +kernel), ⟨by decide +kernel, by decide +kernel, by decide +kernel⟩, by decide +kernel, rfl⟩
set_option maxRecDepth 20000 in
theorem mlL_112 : xMS RL 112 mL_isCut 4 := ⟨mcL_isCut, wG_t 764 (by decide +kernel) (by decide +kernel), wG_t 765 (by decide +kernel) (by decide +kernel)⟩
set_option maxRecDepth 20000 in
theorem mcL_isHeld : xMc mL_isHeld 3 := ⟨wG_t 809 (by decide +kernel) (by decide +kernel), wG_t 0 (by decide +kernel) (by decide +kernel), ⟨by decide +kernel, by decide +kernel, by decide +kernel⟩, by decide +kernel, rfl⟩
set_option maxRecDepth 20000 in
theorem mlL_116 : xMS RL 116 mL_isHeld 3 := ⟨mcL_isHeld, wG_t 807 (by decide +kernel) (by decide +kernel), wG_t 808 (by decide +kernel) (by decide +kernel)⟩
set_option maxRecDepth 20000 in
theorem mcX9_restore : xMc mX9_restore 1 := ⟨wG_t 486 (by decide +kernel) (by decide +kernel), wG_t 1 (by decide +kernel) (by decide +kernel), ⟨by decide +kernel, by decide +kernel, by decide +kernel⟩, by decide +kernel, rfl⟩
set_option maxRecDepth 20000 in
theorem mlL_119 : xMV RL 119 mX9_restore 1 9 := ⟨mcX9_restore, wG_t 483 (by decide +kernel) (by decide +kernel), wG_t 484 (by decide +kernel) (by decide +kernel), wG_t 485 (by decide +kernel) (by decide +kernel), rfl⟩
set_option maxRecDepth 20000 in
theorem mcX9_forget : xMc mX9_forget 0 := ⟨wG_t 472 (by decide +kernel) (by decide +kernel), wG_t 1 (by decide +kernel) (by decide +kernel), ⟨by decide +kernel, by decide +kernel, by decide +kernel⟩, by decide +kernel, rfl⟩
set_option maxRecDepth 20000 in
theorem mlL_122 : xMV RL 122 mX9_forget 0 9 := ⟨mcX9_forget, wG_t 469 (by decide +kernel) (by decide +kernel), wG_t 470 (by decide +kernel) (by decide +kernel), wG_t 471 (by decide +kernel) (by decide +kernel), rfl⟩
def lp_L_law_172 (xs : Nat → Int) (xn : Int) (a : Nat) (p3 : Int) (p4 : Int) (p5 : Int) (p6 : Int) (p7 : Int) (p8 : Int) (p10 : Int) : Nat → Int → Int → xN → (Int → Int → xN → Option (Bool × xN)) → Option (Bool × xN)
  | 0, _, _, _, _ => none
  | n + 1, y9, y11, R, X =>
    if 8 ≤ y11 then
    X y9 y11 R
    else
    if y9 = 0 then
    X y9 y11 R
    else
    if (w4 (2 * p7)) ≠ 0 then
    if (w4 (2 * p7)) ≠ 0 then
    (f_X9_see a (Int.tmod (b4shr p10 y11) (w4 (2 * p7))) (Int.tmod (b4shr p10 y11) (w4 (2 * p7))) 0 R).bind (fun v28 =>
    if v28.1 = (w4 (y11 + 1)) then
    xlet (w4 (y11 + 1)) (fun x30 =>
    lp_L_law_172 xs xn a p3 p4 p5 p6 p7 p8 p10 n 1 x30 v28.2 X)
    else
    none)
    else none
    else none
def f_L_law8 (xs : Nat → Int) (xn : Int) (a : Nat) (R : xN) : Option (Bool × xN) :=
  (f_L_cell xs xn 0 R).bind (fun v1 =>
  xlet (Int.tmod v1 3) (fun x2 =>
  xlet (Int.tmod (b4shr v1 3) 3) (fun x3 =>
  xlet (b4shl 1 x2) (fun x4 =>
  xlet (b4shl 1 x3) (fun x5 =>
  xlet (w4 (x4 * x5)) (fun x6 =>
  (f_L_cell xs xn 1 R).bind (fun v7 =>
  (f_L_foldsBy (Int.tmod v7 256) x2 x3 R).bind (fun v8 =>
  (f_X9_setSheet a x4 x5 R).bind (fun v9 =>
  if v9.1 = x6 then
  (f_X9_setSpine a (Int.tmod (b4shr v1 7) 2) v9.2).bind (fun v11 =>
  if v11.1 = 0 then
  (f_X9_setSheet a 3 1 v11.2).bind (fun v13 =>
  if v13.1 = (-1) then
  (f_X9_printAll a v8 v13.2).bind (fun v15 =>
  if v15.1 = (w4 (2 * x6)) then
  (f_X9_printAll a v8 v15.2).bind (fun v17 =>
  if v17.1 = 0 then
  (f_X9_effort a 1 v17.2).bind (fun v19 =>
  if v19 = (w4 (2 * x6)) then
  (f_X9_readsBy a v8 v17.2).bind (fun v21 =>
  if v21.1 = (w4 (2 * x6)) then
  (f_L_cell xs xn 2 v21.2).bind (fun v23 =>
  lp_L_law_172 xs xn a x2 x3 x4 x5 x6 v8 v23 6000 1 0 v21.2 (fun z31 z32 R33 =>
  if z31 = 0 then
  none
  else
  (f_X9_see a 0 0 0 R33).bind (fun v35 =>
  if v35.1 = (-3) then
  (f_X9_fitting a 0 v35.2).bind (fun v37 =>
  if v37.1 < 1 then
  none
  else
  (f_X9_fitting a 1 v37.2).bind (fun v39 =>
  if v8 < v39.1 then
  none
  else
  (f_X9_fitting a 2 v39.2).bind (fun v41 =>
  if v41.1 < v8 then
  none
  else
  (f_X9_cutsFor a v8 v41.2).bind (fun v43 =>
  (f_L_ones v43.1 v43.2).bind (fun v44 =>
  (f_X9_best a 1 v43.2).bind (fun v45 =>
  if v45.1 < v44 then
  (f_X9_best a 0 v45.2).bind (fun v47 =>
  (f_X9_readsBy a v47.1 v47.2).bind (fun v48 =>
  (f_X9_best a 2 v48.2).bind (fun v49 =>
  if v48.1 = v49.1 then
  (f_X9_best a 0 v49.2).bind (fun v51 =>
  (f_X9_cutsFor a v51.1 v51.2).bind (fun v52 =>
  (f_L_ones v52.1 v52.2).bind (fun v53 =>
  (f_X9_best a 1 v52.2).bind (fun v54 =>
  if v53 = v54.1 then
  (f_X9_take a 1 v54.2).bind (fun v56 =>
  if v56.1 = 0 then
  (f_L_folds a v8 (w4 (x2 + x3)) v56.2).bind (fun v58 =>
  if v58.1 = true then
  (f_X9_effort a 0 v58.2).bind (fun v60 =>
  if v60 = (w4 (x6 - 1)) then
  (f_L_isRead a x6 v58.2).bind (fun v62 =>
  if v62.1 = true then
  (f_L_isCut a v8 x4 x5 v62.2).bind (fun v64 =>
  if v64.1 = true then
  (f_L_cell xs xn 3 v64.2).bind (fun v66 =>
  (f_L_isHeld a x6 v66 v64.2).bind (fun v67 =>
  if v67.1 = true then
  (f_X9_restore a 1 v67.2).bind (fun v69 =>
  if v69.1 = 0 then
  (f_X9_count a 6 v69.2).bind (fun v71 =>
  if v71 = 0 then
  (f_X9_count a 2 v69.2).bind (fun v73 =>
  if v73 = 0 then
  (f_X9_effort a 0 v69.2).bind (fun v75 =>
  if v75 = 0 then
  (f_X9_forget a v69.2).bind (fun v77 =>
  if v77.1 = 8 then
  (f_X9_fitting a 0 v77.2).bind (fun v79 =>
  if v79.1 < 1 then
  some (false, v79.2)
  else
  some (true, v79.2))
  else
  some (false, v77.2))
  else
  some (false, v69.2))
  else
  some (false, v69.2))
  else
  some (false, v69.2))
  else
  some (false, v69.2))
  else
  none))
  else
  none)
  else
  none)
  else
  none)
  else
  none)
  else
  none)
  else
  none))))
  else
  none)))
  else
  (f_X9_best a 1 v45.2).bind (fun v81 =>
  if v81.1 = v44 then
  (f_X9_best a 2 v81.2).bind (fun v83 =>
  if v83.1 < (w4 (2 * x6)) then
  none
  else
  (f_X9_best a 0 v83.2).bind (fun v85 =>
  (f_X9_readsBy a v85.1 v85.2).bind (fun v86 =>
  (f_X9_best a 2 v86.2).bind (fun v87 =>
  if v86.1 = v87.1 then
  (f_X9_best a 0 v87.2).bind (fun v89 =>
  (f_X9_cutsFor a v89.1 v89.2).bind (fun v90 =>
  (f_L_ones v90.1 v90.2).bind (fun v91 =>
  (f_X9_best a 1 v90.2).bind (fun v92 =>
  if v91 = v92.1 then
  (f_X9_take a 1 v92.2).bind (fun v94 =>
  if v94.1 = 0 then
  (f_L_folds a v8 (w4 (x2 + x3)) v94.2).bind (fun v96 =>
  if v96.1 = true then
  (f_X9_effort a 0 v96.2).bind (fun v98 =>
  if v98 = (w4 (x6 - 1)) then
  (f_L_isRead a x6 v96.2).bind (fun v100 =>
  if v100.1 = true then
  (f_L_isCut a v8 x4 x5 v100.2).bind (fun v102 =>
  if v102.1 = true then
  (f_L_cell xs xn 3 v102.2).bind (fun v104 =>
  (f_L_isHeld a x6 v104 v102.2).bind (fun v105 =>
  if v105.1 = true then
  (f_X9_restore a 1 v105.2).bind (fun v107 =>
  if v107.1 = 0 then
  (f_X9_count a 6 v107.2).bind (fun v109 =>
  if v109 = 0 then
  (f_X9_count a 2 v107.2).bind (fun v111 =>
  if v111 = 0 then
  (f_X9_effort a 0 v107.2).bind (fun v113 =>
  if v113 = 0 then
  (f_X9_forget a v107.2).bind (fun v115 =>
  if v115.1 = 8 then
  (f_X9_fitting a 0 v115.2).bind (fun v117 =>
  if v117.1 < 1 then
  some (false, v117.2)
  else
  some (true, v117.2))
  else
  some (false, v115.2))
  else
  some (false, v107.2))
  else
  some (false, v107.2))
  else
  some (false, v107.2))
  else
  some (false, v107.2))
  else
  none))
  else
  none)
  else
  none)
  else
  none)
  else
  none)
  else
  none)
  else
  none))))
  else
  none))))
  else
  none)))))))
  else
  none)))
  else
  none)
  else
  none)
  else
  none)
  else
  none)
  else
  none)
  else
  none)
  else
  none)))))))))
set_option maxRecDepth 20000 in
set_option maxHeartbeats 4000000 in
theorem lc_L_law_172 {l : Launch} {g : xG} {d : Nat} {A : xA} {xs : Nat → Int} {xn : Int} {a : Nat} {nm : String} (h_xs : xscI g = xs) (h_xn : xscN g = xn) (h_4 : i4 xn) (h_a : sh 9 A a) (p3 : Int) (p4 : Int) (p5 : Int) (p6 : Int) (p7 : Int) (p8 : Int) (p10 : Int) {X : Int → Int → xN → Option (Bool × xN)} (hX : ∀ (y9 : Int) (y11 : Int) (R : xN), Ev l g (d + 8) (mL_law nm) 229 [xS 300, xR a, xU, xI p3, xI p4, xI p5, xI p6, xI p7, xI p8, xI y9, xU, xU] [] A R (fun v : Bool × xN => some (xI (xz v.1))) (fun v => v.2) (X y9 y11 R)) (n : Nat) (y9 : Int) (y11 : Int) (R : xN) : Ev l g (d + 8) (mL_law nm) 172 [xS 300, xR a, xU, xI p3, xI p4, xI p5, xI p6, xI p7, xI p8, xI y9, xI p10, xI y11] [] A R (fun v : Bool × xN => some (xI (xz v.1))) (fun v => v.2) (lp_L_law_172 xs xn a p3 p4 p5 p6 p7 p8 p10 n y9 y11 R X) := by
  induction n generalizing y9 y11 R with
  | zero => exact ev_none
  | succ n ih =>
    rw [lp_L_law_172]
    refine ev_st (pc' := 176) (L' := [xS 300, xR a, xU, xI p3, xI p4, xI p5, xI p6, xI p7, xI p8, xI y9, xI p10, xI y11]) (st' := [xI 8, xI y11]) (fun _ _ _ k => e_iload dL_law_172 (i := 11) (x := y11) rfl (e_bipush dL_law_174 rfl (k4 rfl) k)) ?_
    refine ev_br2 (P := 8 ≤ y11) (pct := 229) (pcf := 179) (st' := []) (fun _ _ _ kt kf => e_cge dL_law_176 (tgt := 229) rfl kt kf) (fun h24 => ?_) (fun h24 => ?_)
    · refine ev_st (pc' := 229) (L' := [xS 300, xR a, xU, xI p3, xI p4, xI p5, xI p6, xI p7, xI p8, xI y9, xU, xU]) (st' := []) (fun _ _ _ k => e_fg [10, 11] k) ?_
      exact hX y9 y11 R
    · refine ev_st (pc' := 181) (L' := [xS 300, xR a, xU, xI p3, xI p4, xI p5, xI p6, xI p7, xI p8, xI y9, xI p10, xI y11]) (st' := [xI y9]) (fun _ _ _ k => e_iload dL_law_179 (i := 9) (x := y9) rfl k) ?_
      refine ev_br2 (P := y9 = 0) (pct := 229) (pcf := 184) (st' := []) (fun _ _ _ kt kf => e_ifeq dL_law_181 (tgt := 229) rfl kt kf) (fun h25 => ?_) (fun h25 => ?_)
      · refine ev_st (pc' := 229) (L' := [xS 300, xR a, xU, xI p3, xI p4, xI p5, xI p6, xI p7, xI p8, xI y9, xU, xU]) (st' := []) (fun _ _ _ k => e_fg [10, 11] k) ?_
        exact hX y9 y11 R
      · refine ev_st (pc' := 194) (L' := [xS 300, xR a, xU, xI p3, xI p4, xI p5, xI p6, xI p7, xI p8, xI y9, xI p10, xI y11]) (st' := [xI (w4 (2 * p7)), xI (b4shr p10 y11), xR a]) (fun _ _ _ k => e_aload_n dL_law_184 rfl (i := 1) (x := a) rfl (e_iload dL_law_185 (i := 10) (x := p10) rfl (e_iload dL_law_187 (i := 11) (x := y11) rfl (e_ishr dL_law_189 (e_iconst dL_law_190 (k4 rfl) (e_iload dL_law_191 (i := 7) (x := p7) rfl (e_imul dL_law_193 k))))))) ?_
        refine ev_chk (fun h26 => ?_)
        refine ev_st (pc' := 195) (L' := [xS 300, xR a, xU, xI p3, xI p4, xI p5, xI p6, xI p7, xI p8, xI y9, xI p10, xI y11]) (st' := [xI (Int.tmod (b4shr p10 y11) (w4 (2 * p7))), xR a]) (fun _ _ _ k => e_irem dL_law_194 h26 k) ?_
        refine ev_st (pc' := 204) (L' := [xS 300, xR a, xU, xI p3, xI p4, xI p5, xI p6, xI p7, xI p8, xI y9, xI p10, xI y11]) (st' := [xI (w4 (2 * p7)), xI (b4shr p10 y11), xI (Int.tmod (b4shr p10 y11) (w4 (2 * p7))), xR a]) (fun _ _ _ k => e_iload dL_law_195 (i := 10) (x := p10) rfl (e_iload dL_law_197 (i := 11) (x := y11) rfl (e_ishr dL_law_199 (e_iconst dL_law_200 (k4 rfl) (e_iload dL_law_201 (i := 7) (x := p7) rfl (e_imul dL_law_203 k)))))) ?_
        refine ev_chk (fun h27 => ?_)
        refine ev_st (pc' := 205) (L' := [xS 300, xR a, xU, xI p3, xI p4, xI p5, xI p6, xI p7, xI p8, xI y9, xI p10, xI y11]) (st' := [xI (Int.tmod (b4shr p10 y11) (w4 (2 * p7))), xI (Int.tmod (b4shr p10 y11) (w4 (2 * p7))), xR a]) (fun _ _ _ k => e_irem dL_law_204 h27 k) ?_
        refine ev_st (pc' := 206) (L' := [xS 300, xR a, xU, xI p3, xI p4, xI p5, xI p6, xI p7, xI p8, xI y9, xI p10, xI y11]) (st' := [xI 0, xI (Int.tmod (b4shr p10 y11) (w4 (2 * p7))), xI (Int.tmod (b4shr p10 y11) (w4 (2 * p7))), xR a]) (fun _ _ _ k => e_iconst dL_law_205 (k4 rfl) k) ?_
        refine ev_callV (As := [xI (Int.tmod (b4shr p10 y11) (w4 (2 * p7))), xI (Int.tmod (b4shr p10 y11) (w4 (2 * p7))), xI 0]) (st := []) (fun v28 => [xI v28.1]) dL_law_206 mlL_92 (kd9_0 h_a) rfl rfl rfl rfl rfl rfl (c_X9_see (d := d + 2) h_a (Int.tmod (b4shr p10 y11) (w4 (2 * p7))) (Int.tmod (b4shr p10 y11) (w4 (2 * p7))) 0) (fun _ => trivial) (fun _ => rfl) (fun v28 => ?_)
        refine ev_st (pc' := 213) (L' := [xS 300, xR a, xU, xI p3, xI p4, xI p5, xI p6, xI p7, xI p8, xI y9, xI p10, xI y11]) (st' := [xI (w4 (y11 + 1)), xI v28.1]) (fun _ _ _ k => e_iload dL_law_209 (i := 11) (x := y11) rfl (e_iconst dL_law_211 (k4 rfl) (e_iadd dL_law_212 k))) ?_
        refine ev_br2 (P := v28.1 = (w4 (y11 + 1))) (pct := 216) (pcf := 220) (st' := []) (fun _ _ _ kt kf => e_cne dL_law_213 (tgt := 220) rfl kt kf) (fun h29 => ?_) (fun h29 => ?_)
        · refine ev_st (pc' := 223) (L' := [xS 300, xR a, xU, xI p3, xI p4, xI p5, xI p6, xI p7, xI p8, xI 1, xI p10, xI y11]) (st' := []) (fun _ _ _ k => e_iconst dL_law_216 (k4 rfl) (e_goto dL_law_217 (tgt := 221) rfl (e_istore dL_law_221 (i := 9) rfl (L' := [xS 300, xR a, xU, xI p3, xI p4, xI p5, xI p6, xI p7, xI p8, xI 1, xI p10, xI y11]) rfl k))) ?_
          refine ev_letx (fun x30 ex30 => ?_)
          refine ev_st (pc' := 226) (L' := [xS 300, xR a, xU, xI p3, xI p4, xI p5, xI p6, xI p7, xI p8, xI 1, xI p10, xI x30]) (st' := []) (fun _ _ _ k => e_iinc dL_law_223 (i := 11) rfl (x := y11) rfl (y := x30) ex30 (L' := [xS 300, xR a, xU, xI p3, xI p4, xI p5, xI p6, xI p7, xI p8, xI 1, xI p10, xI x30]) rfl k) ?_
          refine ev_st (pc' := 172) (L' := [xS 300, xR a, xU, xI p3, xI p4, xI p5, xI p6, xI p7, xI p8, xI 1, xI p10, xI x30]) (st' := []) (fun _ _ _ k => e_goto dL_law_226 (tgt := 172) rfl k) ?_
          exact ih 1 x30 v28.2
        · exact ev_none
set_option maxRecDepth 20000 in
set_option maxHeartbeats 4000000 in
theorem c_L_law8 {l : Launch} {g : xG} {d : Nat} {A : xA} {R : xN} {xs : Nat → Int} {xn : Int} {a : Nat} {nm : String} (h_xs : xscI g = xs) (h_xn : xscN g = xn) (h_4 : i4 xn) (h_a : sh 9 A a) : Ev l g (d + 8) (mL_law nm) 8 [xS 300, xR a, xU, xU, xU, xU, xU, xU, xU, xU, xU, xU] [] A R (fun v : Bool × xN => some (xI (xz v.1))) (fun v => v.2) (f_L_law8 xs xn a R) := by
  rw [f_L_law8]
  refine ev_st (pc' := 10) (L' := [xS 300, xR a, xU, xU, xU, xU, xU, xU, xU, xU, xU, xU]) (st' := [xI 0, xS 300]) (fun _ _ _ k => e_aload_nS dL_law_8 rfl (i := 0) (x := 300) rfl rfl (e_iconst dL_law_9 (k4 rfl) k)) ?_
  refine ev_callS (As := [xS 300, xI 0]) (st := []) (fun v1 => [xI v1]) dL_law_10 mlL_78 rfl rfl rfl rfl rfl rfl (c_L_cell (d := d + 7) h_xs h_xn h_4 0) (fun _ => trivial) (fun _ => rfl) (fun v1 => ?_)
  refine ev_st (pc' := 17) (L' := [xS 300, xR a, xI v1, xU, xU, xU, xU, xU, xU, xU, xU, xU]) (st' := [xI (Int.tmod v1 3)]) (fun _ _ _ k => e_istore_n dL_law_13 rfl (i := 2) rfl (L' := [xS 300, xR a, xI v1, xU, xU, xU, xU, xU, xU, xU, xU, xU]) rfl (e_iload_n dL_law_14 rfl (i := 2) (x := v1) rfl (e_iconst dL_law_15 (k4 rfl) (e_irem dL_law_16 (by decide) k)))) ?_
  refine ev_leti (fun x2 ex2 => ?_)
  refine ev_st (pc' := 18) (L' := [xS 300, xR a, xI v1, xI x2, xU, xU, xU, xU, xU, xU, xU, xU]) (st' := []) (fun _ _ _ k => e_istore_n dL_law_17 rfl (i := 3) rfl (L' := [xS 300, xR a, xI v1, xI x2, xU, xU, xU, xU, xU, xU, xU, xU]) rfl k) ?_
  refine ev_st (pc' := 23) (L' := [xS 300, xR a, xI v1, xI x2, xU, xU, xU, xU, xU, xU, xU, xU]) (st' := [xI (Int.tmod (b4shr v1 3) 3)]) (fun _ _ _ k => e_iload_n dL_law_18 rfl (i := 2) (x := v1) rfl (e_iconst dL_law_19 (k4 rfl) (e_ishr dL_law_20 (e_iconst dL_law_21 (k4 rfl) (e_irem dL_law_22 (by decide) k))))) ?_
  refine ev_leti (fun x3 ex3 => ?_)
  refine ev_st (pc' := 25) (L' := [xS 300, xR a, xI v1, xI x2, xI x3, xU, xU, xU, xU, xU, xU, xU]) (st' := []) (fun _ _ _ k => e_istore dL_law_23 (i := 4) rfl (L' := [xS 300, xR a, xI v1, xI x2, xI x3, xU, xU, xU, xU, xU, xU, xU]) rfl k) ?_
  refine ev_st (pc' := 28) (L' := [xS 300, xR a, xI v1, xI x2, xI x3, xU, xU, xU, xU, xU, xU, xU]) (st' := [xI (b4shl 1 x2)]) (fun _ _ _ k => e_iconst dL_law_25 (k4 rfl) (e_iload_n dL_law_26 rfl (i := 3) (x := x2) rfl (e_ishl dL_law_27 k))) ?_
  refine ev_leti (fun x4 ex4 => ?_)
  refine ev_st (pc' := 30) (L' := [xS 300, xR a, xI v1, xI x2, xI x3, xI x4, xU, xU, xU, xU, xU, xU]) (st' := []) (fun _ _ _ k => e_istore dL_law_28 (i := 5) rfl (L' := [xS 300, xR a, xI v1, xI x2, xI x3, xI x4, xU, xU, xU, xU, xU, xU]) rfl k) ?_
  refine ev_st (pc' := 34) (L' := [xS 300, xR a, xI v1, xI x2, xI x3, xI x4, xU, xU, xU, xU, xU, xU]) (st' := [xI (b4shl 1 x3)]) (fun _ _ _ k => e_iconst dL_law_30 (k4 rfl) (e_iload dL_law_31 (i := 4) (x := x3) rfl (e_ishl dL_law_33 k))) ?_
  refine ev_leti (fun x5 ex5 => ?_)
  refine ev_st (pc' := 36) (L' := [xS 300, xR a, xI v1, xI x2, xI x3, xI x4, xI x5, xU, xU, xU, xU, xU]) (st' := []) (fun _ _ _ k => e_istore dL_law_34 (i := 6) rfl (L' := [xS 300, xR a, xI v1, xI x2, xI x3, xI x4, xI x5, xU, xU, xU, xU, xU]) rfl k) ?_
  refine ev_st (pc' := 41) (L' := [xS 300, xR a, xI v1, xI x2, xI x3, xI x4, xI x5, xU, xU, xU, xU, xU]) (st' := [xI (w4 (x4 * x5))]) (fun _ _ _ k => e_iload dL_law_36 (i := 5) (x := x4) rfl (e_iload dL_law_38 (i := 6) (x := x5) rfl (e_imul dL_law_40 k))) ?_
  refine ev_leti (fun x6 ex6 => ?_)
  refine ev_st (pc' := 43) (L' := [xS 300, xR a, xI v1, xI x2, xI x3, xI x4, xI x5, xI x6, xU, xU, xU, xU]) (st' := []) (fun _ _ _ k => e_istore dL_law_41 (i := 7) rfl (L' := [xS 300, xR a, xI v1, xI x2, xI x3, xI x4, xI x5, xI x6, xU, xU, xU, xU]) rfl k) ?_
  refine ev_st (pc' := 45) (L' := [xS 300, xR a, xI v1, xI x2, xI x3, xI x4, xI x5, xI x6, xU, xU, xU, xU]) (st' := [xI 1, xS 300]) (fun _ _ _ k => e_aload_nS dL_law_43 rfl (i := 0) (x := 300) rfl rfl (e_iconst dL_law_44 (k4 rfl) k)) ?_
  refine ev_callS (As := [xS 300, xI 1]) (st := []) (fun v7 => [xI v7]) dL_law_45 mlL_78 rfl rfl rfl rfl rfl rfl (c_L_cell (d := d + 7) h_xs h_xn h_4 1) (fun _ => trivial) (fun _ => rfl) (fun v7 => ?_)
  refine ev_st (pc' := 55) (L' := [xS 300, xR a, xI v1, xI x2, xI x3, xI x4, xI x5, xI x6, xU, xU, xU, xU]) (st' := [xI x3, xI x2, xI (Int.tmod v7 256)]) (fun _ _ _ k => e_sipush dL_law_48 rfl (k4 rfl) (e_irem dL_law_51 (by decide) (e_iload_n dL_law_52 rfl (i := 3) (x := x2) rfl (e_iload dL_law_53 (i := 4) (x := x3) rfl k)))) ?_
  refine ev_callS (As := [xI (Int.tmod v7 256), xI x2, xI x3]) (st := []) (fun v8 => [xI v8]) dL_law_55 mlL_82 rfl rfl rfl rfl rfl rfl (c_L_foldsBy (d := d + 7) (Int.tmod v7 256) x2 x3) (fun _ => trivial) (fun _ => rfl) (fun v8 => ?_)
  refine ev_st (pc' := 65) (L' := [xS 300, xR a, xI v1, xI x2, xI x3, xI x4, xI x5, xI x6, xI v8, xU, xU, xU]) (st' := [xI x5, xI x4, xR a]) (fun _ _ _ k => e_istore dL_law_58 (i := 8) rfl (L' := [xS 300, xR a, xI v1, xI x2, xI x3, xI x4, xI x5, xI x6, xI v8, xU, xU, xU]) rfl (e_aload_n dL_law_60 rfl (i := 1) (x := a) rfl (e_iload dL_law_61 (i := 5) (x := x4) rfl (e_iload dL_law_63 (i := 6) (x := x5) rfl k)))) ?_
  refine ev_callV (As := [xI x4, xI x5]) (st := []) (fun v9 => [xI v9.1]) dL_law_65 mlL_86 (kd9_0 h_a) rfl rfl rfl rfl rfl rfl (c_X9_setSheet (d := d + 2) h_a x4 x5) (fun _ => trivial) (fun _ => rfl) (fun v9 => ?_)
  refine ev_st (pc' := 70) (L' := [xS 300, xR a, xI v1, xI x2, xI x3, xI x4, xI x5, xI x6, xI v8, xU, xU, xU]) (st' := [xI x6, xI v9.1]) (fun _ _ _ k => e_iload dL_law_68 (i := 7) (x := x6) rfl k) ?_
  refine ev_br2 (P := v9.1 = x6) (pct := 73) (pcf := 100) (st' := []) (fun _ _ _ kt kf => e_cne dL_law_70 (tgt := 100) rfl kt kf) (fun h10 => ?_) (fun h10 => ?_)
  · refine ev_st (pc' := 80) (L' := [xS 300, xR a, xI v1, xI x2, xI x3, xI x4, xI x5, xI x6, xI v8, xU, xU, xU]) (st' := [xI (Int.tmod (b4shr v1 7) 2), xR a]) (fun _ _ _ k => e_aload_n dL_law_73 rfl (i := 1) (x := a) rfl (e_iload_n dL_law_74 rfl (i := 2) (x := v1) rfl (e_bipush dL_law_75 rfl (k4 rfl) (e_ishr dL_law_77 (e_iconst dL_law_78 (k4 rfl) (e_irem dL_law_79 (by decide) k)))))) ?_
    refine ev_callV (As := [xI (Int.tmod (b4shr v1 7) 2)]) (st := []) (fun v11 => [xI v11.1]) dL_law_80 mlL_68 (kd9_0 h_a) rfl rfl rfl rfl rfl rfl (c_X9_setSpine (d := d + 2) h_a (Int.tmod (b4shr v1 7) 2)) (fun _ => trivial) (fun _ => rfl) (fun v11 => ?_)
    refine ev_br2 (P := v11.1 = 0) (pct := 86) (pcf := 100) (st' := []) (fun _ _ _ kt kf => e_ifne dL_law_83 (tgt := 100) rfl kt kf) (fun h12 => ?_) (fun h12 => ?_)
    · refine ev_st (pc' := 89) (L' := [xS 300, xR a, xI v1, xI x2, xI x3, xI x4, xI x5, xI x6, xI v8, xU, xU, xU]) (st' := [xI 1, xI 3, xR a]) (fun _ _ _ k => e_aload_n dL_law_86 rfl (i := 1) (x := a) rfl (e_iconst dL_law_87 (k4 rfl) (e_iconst dL_law_88 (k4 rfl) k))) ?_
      refine ev_callV (As := [xI 3, xI 1]) (st := []) (fun v13 => [xI v13.1]) dL_law_89 mlL_86 (kd9_0 h_a) rfl rfl rfl rfl rfl rfl (c_X9_setSheet (d := d + 2) h_a 3 1) (fun _ => trivial) (fun _ => rfl) (fun v13 => ?_)
      refine ev_st (pc' := 93) (L' := [xS 300, xR a, xI v1, xI x2, xI x3, xI x4, xI x5, xI x6, xI v8, xU, xU, xU]) (st' := [xI (-1), xI v13.1]) (fun _ _ _ k => e_iconst dL_law_92 (k4 rfl) k) ?_
      refine ev_br2 (P := v13.1 = (-1)) (pct := 96) (pcf := 100) (st' := []) (fun _ _ _ kt kf => e_cne dL_law_93 (tgt := 100) rfl kt kf) (fun h14 => ?_) (fun h14 => ?_)
      · refine ev_st (pc' := 108) (L' := [xS 300, xR a, xI v1, xI x2, xI x3, xI x4, xI x5, xI x6, xI v8, xI 1, xU, xU]) (st' := []) (fun _ _ _ k => e_iconst dL_law_96 (k4 rfl) (e_goto dL_law_97 (tgt := 101) rfl (e_istore dL_law_101 (i := 9) rfl (L' := [xS 300, xR a, xI v1, xI x2, xI x3, xI x4, xI x5, xI x6, xI v8, xI 1, xU, xU]) rfl (e_iload dL_law_103 (i := 9) (x := 1) rfl (e_ifeqF dL_law_105 (tgt := 159) rfl (by decide) k))))) ?_
        refine ev_st (pc' := 111) (L' := [xS 300, xR a, xI v1, xI x2, xI x3, xI x4, xI x5, xI x6, xI v8, xI 1, xU, xU]) (st' := [xI v8, xR a]) (fun _ _ _ k => e_aload_n dL_law_108 rfl (i := 1) (x := a) rfl (e_iload dL_law_109 (i := 8) (x := v8) rfl k)) ?_
        refine ev_callV (As := [xI v8]) (st := []) (fun v15 => [xI v15.1]) dL_law_111 mlL_59 (kd9_0 h_a) rfl rfl rfl rfl rfl rfl (c_X9_printAll (d := d + 2) h_a v8) (fun _ => trivial) (fun _ => rfl) (fun v15 => ?_)
        refine ev_st (pc' := 118) (L' := [xS 300, xR a, xI v1, xI x2, xI x3, xI x4, xI x5, xI x6, xI v8, xI 1, xU, xU]) (st' := [xI (w4 (2 * x6)), xI v15.1]) (fun _ _ _ k => e_iconst dL_law_114 (k4 rfl) (e_iload dL_law_115 (i := 7) (x := x6) rfl (e_imul dL_law_117 k))) ?_
        refine ev_br2 (P := v15.1 = (w4 (2 * x6))) (pct := 121) (pcf := 159) (st' := []) (fun _ _ _ kt kf => e_cne dL_law_118 (tgt := 159) rfl kt kf) (fun h16 => ?_) (fun h16 => ?_)
        · refine ev_st (pc' := 124) (L' := [xS 300, xR a, xI v1, xI x2, xI x3, xI x4, xI x5, xI x6, xI v8, xI 1, xU, xU]) (st' := [xI v8, xR a]) (fun _ _ _ k => e_aload_n dL_law_121 rfl (i := 1) (x := a) rfl (e_iload dL_law_122 (i := 8) (x := v8) rfl k)) ?_
          refine ev_callV (As := [xI v8]) (st := []) (fun v17 => [xI v17.1]) dL_law_124 mlL_59 (kd9_0 h_a) rfl rfl rfl rfl rfl rfl (c_X9_printAll (d := d + 2) h_a v8) (fun _ => trivial) (fun _ => rfl) (fun v17 => ?_)
          refine ev_br2 (P := v17.1 = 0) (pct := 130) (pcf := 159) (st' := []) (fun _ _ _ kt kf => e_ifne dL_law_127 (tgt := 159) rfl kt kf) (fun h18 => ?_) (fun h18 => ?_)
          · refine ev_st (pc' := 132) (L' := [xS 300, xR a, xI v1, xI x2, xI x3, xI x4, xI x5, xI x6, xI v8, xI 1, xU, xU]) (st' := [xI 1, xR a]) (fun _ _ _ k => e_aload_n dL_law_130 rfl (i := 1) (x := a) rfl (e_iconst dL_law_131 (k4 rfl) k)) ?_
            refine ev_callV (As := [xI 1]) (st := []) (fun v19 => [xI v19]) dL_law_132 mlL_15 (kd9_0 h_a) rfl rfl rfl rfl rfl rfl (c_X9_effort (d := d + 5) h_a 1) (fun _ => trivial) (fun _ => rfl) (fun v19 => ?_)
            refine ev_st (pc' := 139) (L' := [xS 300, xR a, xI v1, xI x2, xI x3, xI x4, xI x5, xI x6, xI v8, xI 1, xU, xU]) (st' := [xI (w4 (2 * x6)), xI v19]) (fun _ _ _ k => e_iconst dL_law_135 (k4 rfl) (e_iload dL_law_136 (i := 7) (x := x6) rfl (e_imul dL_law_138 k))) ?_
            refine ev_br2 (P := v19 = (w4 (2 * x6))) (pct := 142) (pcf := 159) (st' := []) (fun _ _ _ kt kf => e_cne dL_law_139 (tgt := 159) rfl kt kf) (fun h20 => ?_) (fun h20 => ?_)
            · refine ev_st (pc' := 145) (L' := [xS 300, xR a, xI v1, xI x2, xI x3, xI x4, xI x5, xI x6, xI v8, xI 1, xU, xU]) (st' := [xI v8, xR a]) (fun _ _ _ k => e_aload_n dL_law_142 rfl (i := 1) (x := a) rfl (e_iload dL_law_143 (i := 8) (x := v8) rfl k)) ?_
              refine ev_callV (As := [xI v8]) (st := []) (fun v21 => [xI v21.1]) dL_law_145 mlL_89 (kd9_0 h_a) rfl rfl rfl rfl rfl rfl (c_X9_readsBy (d := d + 2) h_a v8) (fun _ => trivial) (fun _ => rfl) (fun v21 => ?_)
              refine ev_st (pc' := 152) (L' := [xS 300, xR a, xI v1, xI x2, xI x3, xI x4, xI x5, xI x6, xI v8, xI 1, xU, xU]) (st' := [xI (w4 (2 * x6)), xI v21.1]) (fun _ _ _ k => e_iconst dL_law_148 (k4 rfl) (e_iload dL_law_149 (i := 7) (x := x6) rfl (e_imul dL_law_151 k))) ?_
              refine ev_br2 (P := v21.1 = (w4 (2 * x6))) (pct := 155) (pcf := 159) (st' := []) (fun _ _ _ kt kf => e_cne dL_law_152 (tgt := 159) rfl kt kf) (fun h22 => ?_) (fun h22 => ?_)
              · refine ev_st (pc' := 164) (L' := [xS 300, xR a, xI v1, xI x2, xI x3, xI x4, xI x5, xI x6, xI v8, xI 1, xU, xU]) (st' := [xI 2, xS 300]) (fun _ _ _ k => e_iconst dL_law_155 (k4 rfl) (e_goto dL_law_156 (tgt := 160) rfl (e_istore dL_law_160 (i := 9) rfl (L' := [xS 300, xR a, xI v1, xI x2, xI x3, xI x4, xI x5, xI x6, xI v8, xI 1, xU, xU]) rfl (e_aload_nS dL_law_162 rfl (i := 0) (x := 300) rfl rfl (e_iconst dL_law_163 (k4 rfl) k))))) ?_
                refine ev_callS (As := [xS 300, xI 2]) (st := []) (fun v23 => [xI v23]) dL_law_164 mlL_78 rfl rfl rfl rfl rfl rfl (c_L_cell (d := d + 7) h_xs h_xn h_4 2) (fun _ => trivial) (fun _ => rfl) (fun v23 => ?_)
                refine ev_st (pc' := 172) (L' := [xS 300, xR a, xU, xI x2, xI x3, xI x4, xI x5, xI x6, xI v8, xI 1, xI v23, xI 0]) (st' := []) (fun _ _ _ k => e_istore dL_law_167 (i := 10) rfl (L' := [xS 300, xR a, xI v1, xI x2, xI x3, xI x4, xI x5, xI x6, xI v8, xI 1, xI v23, xU]) rfl (e_iconst dL_law_169 (k4 rfl) (e_istore dL_law_170 (i := 11) rfl (L' := [xS 300, xR a, xI v1, xI x2, xI x3, xI x4, xI x5, xI x6, xI v8, xI 1, xI v23, xI 0]) rfl (e_fg [2] k)))) ?_
                refine lc_L_law_172 h_xs h_xn h_4 h_a x2 x3 x4 x5 x6 v8 v23 (fun z31 z32 R33 => ?_) 6000 1 0 v21.2
                refine ev_st (pc' := 231) (L' := [xS 300, xR a, xU, xI x2, xI x3, xI x4, xI x5, xI x6, xI v8, xI z31, xU, xU]) (st' := [xI z31]) (fun _ _ _ k => e_iload dL_law_229 (i := 9) (x := z31) rfl k) ?_
                refine ev_br2 (P := z31 = 0) (pct := 279) (pcf := 234) (st' := []) (fun _ _ _ kt kf => e_ifeq dL_law_231 (tgt := 279) rfl kt kf) (fun h34 => ?_) (fun h34 => ?_)
                · exact ev_none
                · refine ev_st (pc' := 238) (L' := [xS 300, xR a, xU, xI x2, xI x3, xI x4, xI x5, xI x6, xI v8, xI z31, xU, xU]) (st' := [xI 0, xI 0, xI 0, xR a]) (fun _ _ _ k => e_aload_n dL_law_234 rfl (i := 1) (x := a) rfl (e_iconst dL_law_235 (k4 rfl) (e_iconst dL_law_236 (k4 rfl) (e_iconst dL_law_237 (k4 rfl) k)))) ?_
                  refine ev_callV (As := [xI 0, xI 0, xI 0]) (st := []) (fun v35 => [xI v35.1]) dL_law_238 mlL_92 (kd9_0 h_a) rfl rfl rfl rfl rfl rfl (c_X9_see (d := d + 2) h_a 0 0 0) (fun _ => trivial) (fun _ => rfl) (fun v35 => ?_)
                  refine ev_st (pc' := 243) (L' := [xS 300, xR a, xU, xI x2, xI x3, xI x4, xI x5, xI x6, xI v8, xI z31, xU, xU]) (st' := [xI (-3), xI v35.1]) (fun _ _ _ k => e_bipush dL_law_241 rfl (k4 rfl) k) ?_
                  refine ev_br2 (P := v35.1 = (-3)) (pct := 246) (pcf := 279) (st' := []) (fun _ _ _ kt kf => e_cne dL_law_243 (tgt := 279) rfl kt kf) (fun h36 => ?_) (fun h36 => ?_)
                  · refine ev_st (pc' := 248) (L' := [xS 300, xR a, xU, xI x2, xI x3, xI x4, xI x5, xI x6, xI v8, xI z31, xU, xU]) (st' := [xI 0, xR a]) (fun _ _ _ k => e_aload_n dL_law_246 rfl (i := 1) (x := a) rfl (e_iconst dL_law_247 (k4 rfl) k)) ?_
                    refine ev_callV (As := [xI 0]) (st := []) (fun v37 => [xI v37.1]) dL_law_248 mlL_95 (kd9_0 h_a) rfl rfl rfl rfl rfl rfl (c_X9_fitting (d := d + 2) h_a 0) (fun _ => trivial) (fun _ => rfl) (fun v37 => ?_)
                    refine ev_st (pc' := 252) (L' := [xS 300, xR a, xU, xI x2, xI x3, xI x4, xI x5, xI x6, xI v8, xI z31, xU, xU]) (st' := [xI 1, xI v37.1]) (fun _ _ _ k => e_iconst dL_law_251 (k4 rfl) k) ?_
                    refine ev_br2 (P := v37.1 < 1) (pct := 279) (pcf := 255) (st' := []) (fun _ _ _ kt kf => e_clt dL_law_252 (tgt := 279) rfl kt kf) (fun h38 => ?_) (fun h38 => ?_)
                    · exact ev_none
                    · refine ev_st (pc' := 257) (L' := [xS 300, xR a, xU, xI x2, xI x3, xI x4, xI x5, xI x6, xI v8, xI z31, xU, xU]) (st' := [xI 1, xR a]) (fun _ _ _ k => e_aload_n dL_law_255 rfl (i := 1) (x := a) rfl (e_iconst dL_law_256 (k4 rfl) k)) ?_
                      refine ev_callV (As := [xI 1]) (st := []) (fun v39 => [xI v39.1]) dL_law_257 mlL_95 (kd9_0 h_a) rfl rfl rfl rfl rfl rfl (c_X9_fitting (d := d + 2) h_a 1) (fun _ => trivial) (fun _ => rfl) (fun v39 => ?_)
                      refine ev_st (pc' := 262) (L' := [xS 300, xR a, xU, xI x2, xI x3, xI x4, xI x5, xI x6, xI v8, xI z31, xU, xU]) (st' := [xI v8, xI v39.1]) (fun _ _ _ k => e_iload dL_law_260 (i := 8) (x := v8) rfl k) ?_
                      refine ev_br2 (P := v8 < v39.1) (pct := 279) (pcf := 265) (st' := []) (fun _ _ _ kt kf => e_cgt dL_law_262 (tgt := 279) rfl kt kf) (fun h40 => ?_) (fun h40 => ?_)
                      · exact ev_none
                      · refine ev_st (pc' := 267) (L' := [xS 300, xR a, xU, xI x2, xI x3, xI x4, xI x5, xI x6, xI v8, xI z31, xU, xU]) (st' := [xI 2, xR a]) (fun _ _ _ k => e_aload_n dL_law_265 rfl (i := 1) (x := a) rfl (e_iconst dL_law_266 (k4 rfl) k)) ?_
                        refine ev_callV (As := [xI 2]) (st := []) (fun v41 => [xI v41.1]) dL_law_267 mlL_95 (kd9_0 h_a) rfl rfl rfl rfl rfl rfl (c_X9_fitting (d := d + 2) h_a 2) (fun _ => trivial) (fun _ => rfl) (fun v41 => ?_)
                        refine ev_st (pc' := 272) (L' := [xS 300, xR a, xU, xI x2, xI x3, xI x4, xI x5, xI x6, xI v8, xI z31, xU, xU]) (st' := [xI v8, xI v41.1]) (fun _ _ _ k => e_iload dL_law_270 (i := 8) (x := v8) rfl k) ?_
                        refine ev_br2 (P := v41.1 < v8) (pct := 279) (pcf := 275) (st' := []) (fun _ _ _ kt kf => e_clt dL_law_272 (tgt := 279) rfl kt kf) (fun h42 => ?_) (fun h42 => ?_)
                        · exact ev_none
                        · refine ev_st (pc' := 285) (L' := [xS 300, xR a, xU, xI x2, xI x3, xI x4, xI x5, xI x6, xI v8, xI 1, xU, xU]) (st' := [xI v8, xR a]) (fun _ _ _ k => e_iconst dL_law_275 (k4 rfl) (e_goto dL_law_276 (tgt := 280) rfl (e_istore dL_law_280 (i := 9) rfl (L' := [xS 300, xR a, xU, xI x2, xI x3, xI x4, xI x5, xI x6, xI v8, xI 1, xU, xU]) rfl (e_aload_n dL_law_282 rfl (i := 1) (x := a) rfl (e_iload dL_law_283 (i := 8) (x := v8) rfl k))))) ?_
                          refine ev_callV (As := [xI v8]) (st := []) (fun v43 => [xI v43.1]) dL_law_285 mlL_45 (kd9_0 h_a) rfl rfl rfl rfl rfl rfl (c_X9_cutsFor (d := d + 2) h_a v8) (fun _ => trivial) (fun _ => rfl) (fun v43 => ?_)
                          refine ev_callS (As := [xI v43.1]) (st := []) (fun v44 => [xI v44]) dL_law_288 mlL_51 rfl rfl rfl rfl rfl rfl (c_L_ones (d := d + 7) v43.1) (fun _ => trivial) (fun _ => rfl) (fun v44 => ?_)
                          refine ev_st (pc' := 298) (L' := [xS 300, xR a, xU, xI x2, xI x3, xI x4, xI x5, xI x6, xI v8, xI 1, xU, xI v44]) (st' := []) (fun _ _ _ k => e_istore dL_law_291 (i := 11) rfl (L' := [xS 300, xR a, xU, xI x2, xI x3, xI x4, xI x5, xI x6, xI v8, xI 1, xU, xI v44]) rfl (e_iload dL_law_293 (i := 9) (x := 1) rfl (e_ifeqF dL_law_295 (tgt := 371) rfl (by decide) k))) ?_
                          refine ev_st (pc' := 300) (L' := [xS 300, xR a, xU, xI x2, xI x3, xI x4, xI x5, xI x6, xI v8, xI 1, xU, xI v44]) (st' := [xI 1, xR a]) (fun _ _ _ k => e_aload_n dL_law_298 rfl (i := 1) (x := a) rfl (e_iconst dL_law_299 (k4 rfl) k)) ?_
                          refine ev_callV (As := [xI 1]) (st := []) (fun v45 => [xI v45.1]) dL_law_300 mlL_98 (kd9_0 h_a) rfl rfl rfl rfl rfl rfl (c_X9_best (d := d + 1) h_a 1) (fun _ => trivial) (fun _ => rfl) (fun v45 => ?_)
                          refine ev_st (pc' := 305) (L' := [xS 300, xR a, xU, xI x2, xI x3, xI x4, xI x5, xI x6, xI v8, xI 1, xU, xI v44]) (st' := [xI v44, xI v45.1]) (fun _ _ _ k => e_iload dL_law_303 (i := 11) (x := v44) rfl k) ?_
                          refine ev_br2 (P := v45.1 < v44) (pct := 330) (pcf := 308) (st' := []) (fun _ _ _ kt kf => e_clt dL_law_305 (tgt := 330) rfl kt kf) (fun h46 => ?_) (fun h46 => ?_)
                          · refine ev_st (pc' := 333) (L' := [xS 300, xR a, xU, xI x2, xI x3, xI x4, xI x5, xI x6, xI v8, xI 1, xU, xI v44]) (st' := [xI 0, xR a, xR a]) (fun _ _ _ k => e_aload_n dL_law_330 rfl (i := 1) (x := a) rfl (e_aload_n dL_law_331 rfl (i := 1) (x := a) rfl (e_iconst dL_law_332 (k4 rfl) k))) ?_
                            refine ev_callV (As := [xI 0]) (st := [xR a]) (fun v47 => [xI v47.1, xR a]) dL_law_333 mlL_98 (kd9_0 h_a) rfl rfl rfl rfl rfl rfl (c_X9_best (d := d + 1) h_a 0) (fun _ => trivial) (fun _ => rfl) (fun v47 => ?_)
                            refine ev_callV (As := [xI v47.1]) (st := []) (fun v48 => [xI v48.1]) dL_law_336 mlL_89 (kd9_0 h_a) rfl rfl rfl rfl rfl rfl (c_X9_readsBy (d := d + 2) h_a v47.1) (fun _ => trivial) (fun _ => rfl) (fun v48 => ?_)
                            refine ev_st (pc' := 341) (L' := [xS 300, xR a, xU, xI x2, xI x3, xI x4, xI x5, xI x6, xI v8, xI 1, xU, xI v44]) (st' := [xI 2, xR a, xI v48.1]) (fun _ _ _ k => e_aload_n dL_law_339 rfl (i := 1) (x := a) rfl (e_iconst dL_law_340 (k4 rfl) k)) ?_
                            refine ev_callV (As := [xI 2]) (st := [xI v48.1]) (fun v49 => [xI v49.1, xI v48.1]) dL_law_341 mlL_98 (kd9_0 h_a) rfl rfl rfl rfl rfl rfl (c_X9_best (d := d + 1) h_a 2) (fun _ => trivial) (fun _ => rfl) (fun v49 => ?_)
                            refine ev_br2 (P := v48.1 = v49.1) (pct := 347) (pcf := 371) (st' := []) (fun _ _ _ kt kf => e_cne dL_law_344 (tgt := 371) rfl kt kf) (fun h50 => ?_) (fun h50 => ?_)
                            · refine ev_st (pc' := 350) (L' := [xS 300, xR a, xU, xI x2, xI x3, xI x4, xI x5, xI x6, xI v8, xI 1, xU, xI v44]) (st' := [xI 0, xR a, xR a]) (fun _ _ _ k => e_aload_n dL_law_347 rfl (i := 1) (x := a) rfl (e_aload_n dL_law_348 rfl (i := 1) (x := a) rfl (e_iconst dL_law_349 (k4 rfl) k))) ?_
                              refine ev_callV (As := [xI 0]) (st := [xR a]) (fun v51 => [xI v51.1, xR a]) dL_law_350 mlL_98 (kd9_0 h_a) rfl rfl rfl rfl rfl rfl (c_X9_best (d := d + 1) h_a 0) (fun _ => trivial) (fun _ => rfl) (fun v51 => ?_)
                              refine ev_callV (As := [xI v51.1]) (st := []) (fun v52 => [xI v52.1]) dL_law_353 mlL_45 (kd9_0 h_a) rfl rfl rfl rfl rfl rfl (c_X9_cutsFor (d := d + 2) h_a v51.1) (fun _ => trivial) (fun _ => rfl) (fun v52 => ?_)
                              refine ev_callS (As := [xI v52.1]) (st := []) (fun v53 => [xI v53]) dL_law_356 mlL_51 rfl rfl rfl rfl rfl rfl (c_L_ones (d := d + 7) v52.1) (fun _ => trivial) (fun _ => rfl) (fun v53 => ?_)
                              refine ev_st (pc' := 361) (L' := [xS 300, xR a, xU, xI x2, xI x3, xI x4, xI x5, xI x6, xI v8, xI 1, xU, xI v44]) (st' := [xI 1, xR a, xI v53]) (fun _ _ _ k => e_aload_n dL_law_359 rfl (i := 1) (x := a) rfl (e_iconst dL_law_360 (k4 rfl) k)) ?_
                              refine ev_callV (As := [xI 1]) (st := [xI v53]) (fun v54 => [xI v54.1, xI v53]) dL_law_361 mlL_98 (kd9_0 h_a) rfl rfl rfl rfl rfl rfl (c_X9_best (d := d + 1) h_a 1) (fun _ => trivial) (fun _ => rfl) (fun v54 => ?_)
                              refine ev_br2 (P := v53 = v54.1) (pct := 367) (pcf := 371) (st' := []) (fun _ _ _ kt kf => e_cne dL_law_364 (tgt := 371) rfl kt kf) (fun h55 => ?_) (fun h55 => ?_)
                              · refine ev_st (pc' := 379) (L' := [xS 300, xR a, xU, xI x2, xI x3, xI x4, xI x5, xI x6, xI v8, xI 1, xU, xI v44]) (st' := []) (fun _ _ _ k => e_iconst dL_law_367 (k4 rfl) (e_goto dL_law_368 (tgt := 372) rfl (e_istore dL_law_372 (i := 9) rfl (L' := [xS 300, xR a, xU, xI x2, xI x3, xI x4, xI x5, xI x6, xI v8, xI 1, xU, xI v44]) rfl (e_iload dL_law_374 (i := 9) (x := 1) rfl (e_ifeqF dL_law_376 (tgt := 452) rfl (by decide) k))))) ?_
                                refine ev_st (pc' := 381) (L' := [xS 300, xR a, xU, xI x2, xI x3, xI x4, xI x5, xI x6, xI v8, xI 1, xU, xI v44]) (st' := [xI 1, xR a]) (fun _ _ _ k => e_aload_n dL_law_379 rfl (i := 1) (x := a) rfl (e_iconst dL_law_380 (k4 rfl) k)) ?_
                                refine ev_callV (As := [xI 1]) (st := []) (fun v56 => [xI v56.1]) dL_law_381 mlL_101 (kd9_0 h_a) rfl rfl rfl rfl rfl rfl (c_X9_take (d := d + 2) h_a 1) (fun _ => trivial) (fun _ => rfl) (fun v56 => ?_)
                                refine ev_br2 (P := v56.1 = 0) (pct := 387) (pcf := 452) (st' := []) (fun _ _ _ kt kf => e_ifne dL_law_384 (tgt := 452) rfl kt kf) (fun h57 => ?_) (fun h57 => ?_)
                                · refine ev_st (pc' := 394) (L' := [xS 300, xR a, xU, xI x2, xI x3, xI x4, xI x5, xI x6, xI v8, xI 1, xU, xI v44]) (st' := [xI (w4 (x2 + x3)), xI v8, xR a]) (fun _ _ _ k => e_aload_n dL_law_387 rfl (i := 1) (x := a) rfl (e_iload dL_law_388 (i := 8) (x := v8) rfl (e_iload_n dL_law_390 rfl (i := 3) (x := x2) rfl (e_iload dL_law_391 (i := 4) (x := x3) rfl (e_iadd dL_law_393 k))))) ?_
                                  refine ev_callS (As := [xR a, xI v8, xI (w4 (x2 + x3))]) (st := []) (fun v58 => [xI (xz v58.1)]) dL_law_394 mlL_104 rfl rfl rfl rfl rfl rfl (c_L_folds (d := d + 1) h_a v8 (w4 (x2 + x3))) (fun _ => xz01 _) (fun _ => rfl) (fun v58 => ?_)
                                  refine ev_br2 (P := v58.1 = true) (pct := 400) (pcf := 452) (st' := []) (fun _ _ _ kt kf => e_ifeqz dL_law_397 (tgt := 452) rfl kt kf) (fun h59 => ?_) (fun h59 => ?_)
                                  · refine ev_st (pc' := 402) (L' := [xS 300, xR a, xU, xI x2, xI x3, xI x4, xI x5, xI x6, xI v8, xI 1, xU, xI v44]) (st' := [xI 0, xR a]) (fun _ _ _ k => e_aload_n dL_law_400 rfl (i := 1) (x := a) rfl (e_iconst dL_law_401 (k4 rfl) k)) ?_
                                    refine ev_callV (As := [xI 0]) (st := []) (fun v60 => [xI v60]) dL_law_402 mlL_15 (kd9_0 h_a) rfl rfl rfl rfl rfl rfl (c_X9_effort (d := d + 5) h_a 0) (fun _ => trivial) (fun _ => rfl) (fun v60 => ?_)
                                    refine ev_st (pc' := 409) (L' := [xS 300, xR a, xU, xI x2, xI x3, xI x4, xI x5, xI x6, xI v8, xI 1, xU, xI v44]) (st' := [xI (w4 (x6 - 1)), xI v60]) (fun _ _ _ k => e_iload dL_law_405 (i := 7) (x := x6) rfl (e_iconst dL_law_407 (k4 rfl) (e_isub dL_law_408 k))) ?_
                                    refine ev_br2 (P := v60 = (w4 (x6 - 1))) (pct := 412) (pcf := 452) (st' := []) (fun _ _ _ kt kf => e_cne dL_law_409 (tgt := 452) rfl kt kf) (fun h61 => ?_) (fun h61 => ?_)
                                    · refine ev_st (pc' := 415) (L' := [xS 300, xR a, xU, xI x2, xI x3, xI x4, xI x5, xI x6, xI v8, xI 1, xU, xI v44]) (st' := [xI x6, xR a]) (fun _ _ _ k => e_aload_n dL_law_412 rfl (i := 1) (x := a) rfl (e_iload dL_law_413 (i := 7) (x := x6) rfl k)) ?_
                                      refine ev_callS (As := [xR a, xI x6]) (st := []) (fun v62 => [xI (xz v62.1)]) dL_law_415 mlL_108 rfl rfl rfl rfl rfl rfl (c_L_isRead (d := d) h_a x6) (fun _ => xz01 _) (fun _ => rfl) (fun v62 => ?_)
                                      refine ev_br2 (P := v62.1 = true) (pct := 421) (pcf := 452) (st' := []) (fun _ _ _ kt kf => e_ifeqz dL_law_418 (tgt := 452) rfl kt kf) (fun h63 => ?_) (fun h63 => ?_)
                                      · refine ev_st (pc' := 428) (L' := [xS 300, xR a, xU, xI x2, xI x3, xI x4, xI x5, xI x6, xI v8, xI 1, xU, xI v44]) (st' := [xI x5, xI x4, xI v8, xR a]) (fun _ _ _ k => e_aload_n dL_law_421 rfl (i := 1) (x := a) rfl (e_iload dL_law_422 (i := 8) (x := v8) rfl (e_iload dL_law_424 (i := 5) (x := x4) rfl (e_iload dL_law_426 (i := 6) (x := x5) rfl k)))) ?_
                                        refine ev_callS (As := [xR a, xI v8, xI x4, xI x5]) (st := []) (fun v64 => [xI (xz v64.1)]) dL_law_428 mlL_112 rfl rfl rfl rfl rfl rfl (c_L_isCut (d := d + 1) h_a v8 x4 x5) (fun _ => xz01 _) (fun _ => rfl) (fun v64 => ?_)
                                        refine ev_br2 (P := v64.1 = true) (pct := 434) (pcf := 452) (st' := []) (fun _ _ _ kt kf => e_ifeqz dL_law_431 (tgt := 452) rfl kt kf) (fun h65 => ?_) (fun h65 => ?_)
                                        · refine ev_st (pc' := 439) (L' := [xS 300, xR a, xU, xI x2, xI x3, xI x4, xI x5, xI x6, xI v8, xI 1, xU, xI v44]) (st' := [xI 3, xS 300, xI x6, xR a]) (fun _ _ _ k => e_aload_n dL_law_434 rfl (i := 1) (x := a) rfl (e_iload dL_law_435 (i := 7) (x := x6) rfl (e_aload_nS dL_law_437 rfl (i := 0) (x := 300) rfl rfl (e_iconst dL_law_438 (k4 rfl) k)))) ?_
                                          refine ev_callS (As := [xS 300, xI 3]) (st := [xI x6, xR a]) (fun v66 => [xI v66, xI x6, xR a]) dL_law_439 mlL_78 rfl rfl rfl rfl rfl rfl (c_L_cell (d := d + 7) h_xs h_xn h_4 3) (fun _ => trivial) (fun _ => rfl) (fun v66 => ?_)
                                          refine ev_callS (As := [xR a, xI x6, xI v66]) (st := []) (fun v67 => [xI (xz v67.1)]) dL_law_442 mlL_116 rfl rfl rfl rfl rfl rfl (c_L_isHeld (d := d) h_a x6 v66) (fun _ => xz01 _) (fun _ => rfl) (fun v67 => ?_)
                                          refine ev_br2 (P := v67.1 = true) (pct := 448) (pcf := 452) (st' := []) (fun _ _ _ kt kf => e_ifeqz dL_law_445 (tgt := 452) rfl kt kf) (fun h68 => ?_) (fun h68 => ?_)
                                          · refine ev_st (pc' := 460) (L' := [xS 300, xR a, xU, xI x2, xI x3, xI x4, xI x5, xI x6, xI v8, xI 1, xU, xI v44]) (st' := []) (fun _ _ _ k => e_iconst dL_law_448 (k4 rfl) (e_goto dL_law_449 (tgt := 453) rfl (e_istore dL_law_453 (i := 9) rfl (L' := [xS 300, xR a, xU, xI x2, xI x3, xI x4, xI x5, xI x6, xI v8, xI 1, xU, xI v44]) rfl (e_iload dL_law_455 (i := 9) (x := 1) rfl (e_ifeqF dL_law_457 (tgt := 515) rfl (by decide) k))))) ?_
                                            refine ev_st (pc' := 462) (L' := [xS 300, xR a, xU, xI x2, xI x3, xI x4, xI x5, xI x6, xI v8, xI 1, xU, xI v44]) (st' := [xI 1, xR a]) (fun _ _ _ k => e_aload_n dL_law_460 rfl (i := 1) (x := a) rfl (e_iconst dL_law_461 (k4 rfl) k)) ?_
                                            refine ev_callV (As := [xI 1]) (st := []) (fun v69 => [xI v69.1]) dL_law_462 mlL_119 (kd9_0 h_a) rfl rfl rfl rfl rfl rfl (c_X9_restore (d := d + 2) h_a 1) (fun _ => trivial) (fun _ => rfl) (fun v69 => ?_)
                                            refine ev_br2 (P := v69.1 = 0) (pct := 468) (pcf := 515) (st' := []) (fun _ _ _ kt kf => e_ifne dL_law_465 (tgt := 515) rfl kt kf) (fun h70 => ?_) (fun h70 => ?_)
                                            · refine ev_st (pc' := 471) (L' := [xS 300, xR a, xU, xI x2, xI x3, xI x4, xI x5, xI x6, xI v8, xI 1, xU, xI v44]) (st' := [xI 6, xR a]) (fun _ _ _ k => e_aload_n dL_law_468 rfl (i := 1) (x := a) rfl (e_bipush dL_law_469 rfl (k4 rfl) k)) ?_
                                              refine ev_callV (As := [xI 6]) (st := []) (fun v71 => [xI v71]) dL_law_471 mlL_9 (kd9_0 h_a) rfl rfl rfl rfl rfl rfl (c_X9_count (d := d + 6) h_a 6) (fun _ => trivial) (fun _ => rfl) (fun v71 => ?_)
                                              refine ev_br2 (P := v71 = 0) (pct := 477) (pcf := 515) (st' := []) (fun _ _ _ kt kf => e_ifne dL_law_474 (tgt := 515) rfl kt kf) (fun h72 => ?_) (fun h72 => ?_)
                                              · refine ev_st (pc' := 479) (L' := [xS 300, xR a, xU, xI x2, xI x3, xI x4, xI x5, xI x6, xI v8, xI 1, xU, xI v44]) (st' := [xI 2, xR a]) (fun _ _ _ k => e_aload_n dL_law_477 rfl (i := 1) (x := a) rfl (e_iconst dL_law_478 (k4 rfl) k)) ?_
                                                refine ev_callV (As := [xI 2]) (st := []) (fun v73 => [xI v73]) dL_law_479 mlL_9 (kd9_0 h_a) rfl rfl rfl rfl rfl rfl (c_X9_count (d := d + 6) h_a 2) (fun _ => trivial) (fun _ => rfl) (fun v73 => ?_)
                                                refine ev_br2 (P := v73 = 0) (pct := 485) (pcf := 515) (st' := []) (fun _ _ _ kt kf => e_ifne dL_law_482 (tgt := 515) rfl kt kf) (fun h74 => ?_) (fun h74 => ?_)
                                                · refine ev_st (pc' := 487) (L' := [xS 300, xR a, xU, xI x2, xI x3, xI x4, xI x5, xI x6, xI v8, xI 1, xU, xI v44]) (st' := [xI 0, xR a]) (fun _ _ _ k => e_aload_n dL_law_485 rfl (i := 1) (x := a) rfl (e_iconst dL_law_486 (k4 rfl) k)) ?_
                                                  refine ev_callV (As := [xI 0]) (st := []) (fun v75 => [xI v75]) dL_law_487 mlL_15 (kd9_0 h_a) rfl rfl rfl rfl rfl rfl (c_X9_effort (d := d + 5) h_a 0) (fun _ => trivial) (fun _ => rfl) (fun v75 => ?_)
                                                  refine ev_br2 (P := v75 = 0) (pct := 493) (pcf := 515) (st' := []) (fun _ _ _ kt kf => e_ifne dL_law_490 (tgt := 515) rfl kt kf) (fun h76 => ?_) (fun h76 => ?_)
                                                  · refine ev_st (pc' := 494) (L' := [xS 300, xR a, xU, xI x2, xI x3, xI x4, xI x5, xI x6, xI v8, xI 1, xU, xI v44]) (st' := [xR a]) (fun _ _ _ k => e_aload_n dL_law_493 rfl (i := 1) (x := a) rfl k) ?_
                                                    refine ev_callV (As := []) (st := []) (fun v77 => [xI v77.1]) dL_law_494 mlL_122 (kd9_0 h_a) rfl rfl rfl rfl rfl rfl (c_X9_forget (d := d + 2) h_a) (fun _ => trivial) (fun _ => rfl) (fun v77 => ?_)
                                                    refine ev_st (pc' := 499) (L' := [xS 300, xR a, xU, xI x2, xI x3, xI x4, xI x5, xI x6, xI v8, xI 1, xU, xI v44]) (st' := [xI 8, xI v77.1]) (fun _ _ _ k => e_bipush dL_law_497 rfl (k4 rfl) k) ?_
                                                    refine ev_br2 (P := v77.1 = 8) (pct := 502) (pcf := 515) (st' := []) (fun _ _ _ kt kf => e_cne dL_law_499 (tgt := 515) rfl kt kf) (fun h78 => ?_) (fun h78 => ?_)
                                                    · refine ev_st (pc' := 504) (L' := [xS 300, xR a, xU, xI x2, xI x3, xI x4, xI x5, xI x6, xI v8, xI 1, xU, xI v44]) (st' := [xI 0, xR a]) (fun _ _ _ k => e_aload_n dL_law_502 rfl (i := 1) (x := a) rfl (e_iconst dL_law_503 (k4 rfl) k)) ?_
                                                      refine ev_callV (As := [xI 0]) (st := []) (fun v79 => [xI v79.1]) dL_law_504 mlL_95 (kd9_0 h_a) rfl rfl rfl rfl rfl rfl (c_X9_fitting (d := d + 2) h_a 0) (fun _ => trivial) (fun _ => rfl) (fun v79 => ?_)
                                                      refine ev_st (pc' := 508) (L' := [xS 300, xR a, xU, xI x2, xI x3, xI x4, xI x5, xI x6, xI v8, xI 1, xU, xI v44]) (st' := [xI 1, xI v79.1]) (fun _ _ _ k => e_iconst dL_law_507 (k4 rfl) k) ?_
                                                      refine ev_br2 (P := v79.1 < 1) (pct := 515) (pcf := 511) (st' := []) (fun _ _ _ kt kf => e_clt dL_law_508 (tgt := 515) rfl kt kf) (fun h80 => ?_) (fun h80 => ?_)
                                                      · exact ev_ret (e_iconst dL_law_515 (k4 rfl) (e_iret dL_law_516))
                                                      · exact ev_ret (e_iconst dL_law_511 (k4 rfl) (e_goto dL_law_512 (tgt := 516) rfl (e_iret dL_law_516)))
                                                    · exact ev_ret (e_iconst dL_law_515 (k4 rfl) (e_iret dL_law_516))
                                                  · exact ev_ret (e_iconst dL_law_515 (k4 rfl) (e_iret dL_law_516))
                                                · exact ev_ret (e_iconst dL_law_515 (k4 rfl) (e_iret dL_law_516))
                                              · exact ev_ret (e_iconst dL_law_515 (k4 rfl) (e_iret dL_law_516))
                                            · exact ev_ret (e_iconst dL_law_515 (k4 rfl) (e_iret dL_law_516))
                                          · exact ev_none
                                        · exact ev_none
                                      · exact ev_none
                                    · exact ev_none
                                  · exact ev_none
                                · exact ev_none
                              · exact ev_none
                            · exact ev_none
                          · refine ev_st (pc' := 310) (L' := [xS 300, xR a, xU, xI x2, xI x3, xI x4, xI x5, xI x6, xI v8, xI 1, xU, xI v44]) (st' := [xI 1, xR a]) (fun _ _ _ k => e_aload_n dL_law_308 rfl (i := 1) (x := a) rfl (e_iconst dL_law_309 (k4 rfl) k)) ?_
                            refine ev_callV (As := [xI 1]) (st := []) (fun v81 => [xI v81.1]) dL_law_310 mlL_98 (kd9_0 h_a) rfl rfl rfl rfl rfl rfl (c_X9_best (d := d + 1) h_a 1) (fun _ => trivial) (fun _ => rfl) (fun v81 => ?_)
                            refine ev_st (pc' := 315) (L' := [xS 300, xR a, xU, xI x2, xI x3, xI x4, xI x5, xI x6, xI v8, xI 1, xU, xI v44]) (st' := [xI v44, xI v81.1]) (fun _ _ _ k => e_iload dL_law_313 (i := 11) (x := v44) rfl k) ?_
                            refine ev_br2 (P := v81.1 = v44) (pct := 318) (pcf := 371) (st' := []) (fun _ _ _ kt kf => e_cne dL_law_315 (tgt := 371) rfl kt kf) (fun h82 => ?_) (fun h82 => ?_)
                            · refine ev_st (pc' := 320) (L' := [xS 300, xR a, xU, xI x2, xI x3, xI x4, xI x5, xI x6, xI v8, xI 1, xU, xI v44]) (st' := [xI 2, xR a]) (fun _ _ _ k => e_aload_n dL_law_318 rfl (i := 1) (x := a) rfl (e_iconst dL_law_319 (k4 rfl) k)) ?_
                              refine ev_callV (As := [xI 2]) (st := []) (fun v83 => [xI v83.1]) dL_law_320 mlL_98 (kd9_0 h_a) rfl rfl rfl rfl rfl rfl (c_X9_best (d := d + 1) h_a 2) (fun _ => trivial) (fun _ => rfl) (fun v83 => ?_)
                              refine ev_st (pc' := 327) (L' := [xS 300, xR a, xU, xI x2, xI x3, xI x4, xI x5, xI x6, xI v8, xI 1, xU, xI v44]) (st' := [xI (w4 (2 * x6)), xI v83.1]) (fun _ _ _ k => e_iconst dL_law_323 (k4 rfl) (e_iload dL_law_324 (i := 7) (x := x6) rfl (e_imul dL_law_326 k))) ?_
                              refine ev_br2 (P := v83.1 < (w4 (2 * x6))) (pct := 371) (pcf := 330) (st' := []) (fun _ _ _ kt kf => e_clt dL_law_327 (tgt := 371) rfl kt kf) (fun h84 => ?_) (fun h84 => ?_)
                              · exact ev_none
                              · refine ev_st (pc' := 333) (L' := [xS 300, xR a, xU, xI x2, xI x3, xI x4, xI x5, xI x6, xI v8, xI 1, xU, xI v44]) (st' := [xI 0, xR a, xR a]) (fun _ _ _ k => e_aload_n dL_law_330 rfl (i := 1) (x := a) rfl (e_aload_n dL_law_331 rfl (i := 1) (x := a) rfl (e_iconst dL_law_332 (k4 rfl) k))) ?_
                                refine ev_callV (As := [xI 0]) (st := [xR a]) (fun v85 => [xI v85.1, xR a]) dL_law_333 mlL_98 (kd9_0 h_a) rfl rfl rfl rfl rfl rfl (c_X9_best (d := d + 1) h_a 0) (fun _ => trivial) (fun _ => rfl) (fun v85 => ?_)
                                refine ev_callV (As := [xI v85.1]) (st := []) (fun v86 => [xI v86.1]) dL_law_336 mlL_89 (kd9_0 h_a) rfl rfl rfl rfl rfl rfl (c_X9_readsBy (d := d + 2) h_a v85.1) (fun _ => trivial) (fun _ => rfl) (fun v86 => ?_)
                                refine ev_st (pc' := 341) (L' := [xS 300, xR a, xU, xI x2, xI x3, xI x4, xI x5, xI x6, xI v8, xI 1, xU, xI v44]) (st' := [xI 2, xR a, xI v86.1]) (fun _ _ _ k => e_aload_n dL_law_339 rfl (i := 1) (x := a) rfl (e_iconst dL_law_340 (k4 rfl) k)) ?_
                                refine ev_callV (As := [xI 2]) (st := [xI v86.1]) (fun v87 => [xI v87.1, xI v86.1]) dL_law_341 mlL_98 (kd9_0 h_a) rfl rfl rfl rfl rfl rfl (c_X9_best (d := d + 1) h_a 2) (fun _ => trivial) (fun _ => rfl) (fun v87 => ?_)
                                refine ev_br2 (P := v86.1 = v87.1) (pct := 347) (pcf := 371) (st' := []) (fun _ _ _ kt kf => e_cne dL_law_344 (tgt := 371) rfl kt kf) (fun h88 => ?_) (fun h88 => ?_)
                                · refine ev_st (pc' := 350) (L' := [xS 300, xR a, xU, xI x2, xI x3, xI x4, xI x5, xI x6, xI v8, xI 1, xU, xI v44]) (st' := [xI 0, xR a, xR a]) (fun _ _ _ k => e_aload_n dL_law_347 rfl (i := 1) (x := a) rfl (e_aload_n dL_law_348 rfl (i := 1) (x := a) rfl (e_iconst dL_law_349 (k4 rfl) k))) ?_
                                  refine ev_callV (As := [xI 0]) (st := [xR a]) (fun v89 => [xI v89.1, xR a]) dL_law_350 mlL_98 (kd9_0 h_a) rfl rfl rfl rfl rfl rfl (c_X9_best (d := d + 1) h_a 0) (fun _ => trivial) (fun _ => rfl) (fun v89 => ?_)
                                  refine ev_callV (As := [xI v89.1]) (st := []) (fun v90 => [xI v90.1]) dL_law_353 mlL_45 (kd9_0 h_a) rfl rfl rfl rfl rfl rfl (c_X9_cutsFor (d := d + 2) h_a v89.1) (fun _ => trivial) (fun _ => rfl) (fun v90 => ?_)
                                  refine ev_callS (As := [xI v90.1]) (st := []) (fun v91 => [xI v91]) dL_law_356 mlL_51 rfl rfl rfl rfl rfl rfl (c_L_ones (d := d + 7) v90.1) (fun _ => trivial) (fun _ => rfl) (fun v91 => ?_)
                                  refine ev_st (pc' := 361) (L' := [xS 300, xR a, xU, xI x2, xI x3, xI x4, xI x5, xI x6, xI v8, xI 1, xU, xI v44]) (st' := [xI 1, xR a, xI v91]) (fun _ _ _ k => e_aload_n dL_law_359 rfl (i := 1) (x := a) rfl (e_iconst dL_law_360 (k4 rfl) k)) ?_
                                  refine ev_callV (As := [xI 1]) (st := [xI v91]) (fun v92 => [xI v92.1, xI v91]) dL_law_361 mlL_98 (kd9_0 h_a) rfl rfl rfl rfl rfl rfl (c_X9_best (d := d + 1) h_a 1) (fun _ => trivial) (fun _ => rfl) (fun v92 => ?_)
                                  refine ev_br2 (P := v91 = v92.1) (pct := 367) (pcf := 371) (st' := []) (fun _ _ _ kt kf => e_cne dL_law_364 (tgt := 371) rfl kt kf) (fun h93 => ?_) (fun h93 => ?_)
                                  · refine ev_st (pc' := 379) (L' := [xS 300, xR a, xU, xI x2, xI x3, xI x4, xI x5, xI x6, xI v8, xI 1, xU, xI v44]) (st' := []) (fun _ _ _ k => e_iconst dL_law_367 (k4 rfl) (e_goto dL_law_368 (tgt := 372) rfl (e_istore dL_law_372 (i := 9) rfl (L' := [xS 300, xR a, xU, xI x2, xI x3, xI x4, xI x5, xI x6, xI v8, xI 1, xU, xI v44]) rfl (e_iload dL_law_374 (i := 9) (x := 1) rfl (e_ifeqF dL_law_376 (tgt := 452) rfl (by decide) k))))) ?_
                                    refine ev_st (pc' := 381) (L' := [xS 300, xR a, xU, xI x2, xI x3, xI x4, xI x5, xI x6, xI v8, xI 1, xU, xI v44]) (st' := [xI 1, xR a]) (fun _ _ _ k => e_aload_n dL_law_379 rfl (i := 1) (x := a) rfl (e_iconst dL_law_380 (k4 rfl) k)) ?_
                                    refine ev_callV (As := [xI 1]) (st := []) (fun v94 => [xI v94.1]) dL_law_381 mlL_101 (kd9_0 h_a) rfl rfl rfl rfl rfl rfl (c_X9_take (d := d + 2) h_a 1) (fun _ => trivial) (fun _ => rfl) (fun v94 => ?_)
                                    refine ev_br2 (P := v94.1 = 0) (pct := 387) (pcf := 452) (st' := []) (fun _ _ _ kt kf => e_ifne dL_law_384 (tgt := 452) rfl kt kf) (fun h95 => ?_) (fun h95 => ?_)
                                    · refine ev_st (pc' := 394) (L' := [xS 300, xR a, xU, xI x2, xI x3, xI x4, xI x5, xI x6, xI v8, xI 1, xU, xI v44]) (st' := [xI (w4 (x2 + x3)), xI v8, xR a]) (fun _ _ _ k => e_aload_n dL_law_387 rfl (i := 1) (x := a) rfl (e_iload dL_law_388 (i := 8) (x := v8) rfl (e_iload_n dL_law_390 rfl (i := 3) (x := x2) rfl (e_iload dL_law_391 (i := 4) (x := x3) rfl (e_iadd dL_law_393 k))))) ?_
                                      refine ev_callS (As := [xR a, xI v8, xI (w4 (x2 + x3))]) (st := []) (fun v96 => [xI (xz v96.1)]) dL_law_394 mlL_104 rfl rfl rfl rfl rfl rfl (c_L_folds (d := d + 1) h_a v8 (w4 (x2 + x3))) (fun _ => xz01 _) (fun _ => rfl) (fun v96 => ?_)
                                      refine ev_br2 (P := v96.1 = true) (pct := 400) (pcf := 452) (st' := []) (fun _ _ _ kt kf => e_ifeqz dL_law_397 (tgt := 452) rfl kt kf) (fun h97 => ?_) (fun h97 => ?_)
                                      · refine ev_st (pc' := 402) (L' := [xS 300, xR a, xU, xI x2, xI x3, xI x4, xI x5, xI x6, xI v8, xI 1, xU, xI v44]) (st' := [xI 0, xR a]) (fun _ _ _ k => e_aload_n dL_law_400 rfl (i := 1) (x := a) rfl (e_iconst dL_law_401 (k4 rfl) k)) ?_
                                        refine ev_callV (As := [xI 0]) (st := []) (fun v98 => [xI v98]) dL_law_402 mlL_15 (kd9_0 h_a) rfl rfl rfl rfl rfl rfl (c_X9_effort (d := d + 5) h_a 0) (fun _ => trivial) (fun _ => rfl) (fun v98 => ?_)
                                        refine ev_st (pc' := 409) (L' := [xS 300, xR a, xU, xI x2, xI x3, xI x4, xI x5, xI x6, xI v8, xI 1, xU, xI v44]) (st' := [xI (w4 (x6 - 1)), xI v98]) (fun _ _ _ k => e_iload dL_law_405 (i := 7) (x := x6) rfl (e_iconst dL_law_407 (k4 rfl) (e_isub dL_law_408 k))) ?_
                                        refine ev_br2 (P := v98 = (w4 (x6 - 1))) (pct := 412) (pcf := 452) (st' := []) (fun _ _ _ kt kf => e_cne dL_law_409 (tgt := 452) rfl kt kf) (fun h99 => ?_) (fun h99 => ?_)
                                        · refine ev_st (pc' := 415) (L' := [xS 300, xR a, xU, xI x2, xI x3, xI x4, xI x5, xI x6, xI v8, xI 1, xU, xI v44]) (st' := [xI x6, xR a]) (fun _ _ _ k => e_aload_n dL_law_412 rfl (i := 1) (x := a) rfl (e_iload dL_law_413 (i := 7) (x := x6) rfl k)) ?_
                                          refine ev_callS (As := [xR a, xI x6]) (st := []) (fun v100 => [xI (xz v100.1)]) dL_law_415 mlL_108 rfl rfl rfl rfl rfl rfl (c_L_isRead (d := d) h_a x6) (fun _ => xz01 _) (fun _ => rfl) (fun v100 => ?_)
                                          refine ev_br2 (P := v100.1 = true) (pct := 421) (pcf := 452) (st' := []) (fun _ _ _ kt kf => e_ifeqz dL_law_418 (tgt := 452) rfl kt kf) (fun h101 => ?_) (fun h101 => ?_)
                                          · refine ev_st (pc' := 428) (L' := [xS 300, xR a, xU, xI x2, xI x3, xI x4, xI x5, xI x6, xI v8, xI 1, xU, xI v44]) (st' := [xI x5, xI x4, xI v8, xR a]) (fun _ _ _ k => e_aload_n dL_law_421 rfl (i := 1) (x := a) rfl (e_iload dL_law_422 (i := 8) (x := v8) rfl (e_iload dL_law_424 (i := 5) (x := x4) rfl (e_iload dL_law_426 (i := 6) (x := x5) rfl k)))) ?_
                                            refine ev_callS (As := [xR a, xI v8, xI x4, xI x5]) (st := []) (fun v102 => [xI (xz v102.1)]) dL_law_428 mlL_112 rfl rfl rfl rfl rfl rfl (c_L_isCut (d := d + 1) h_a v8 x4 x5) (fun _ => xz01 _) (fun _ => rfl) (fun v102 => ?_)
                                            refine ev_br2 (P := v102.1 = true) (pct := 434) (pcf := 452) (st' := []) (fun _ _ _ kt kf => e_ifeqz dL_law_431 (tgt := 452) rfl kt kf) (fun h103 => ?_) (fun h103 => ?_)
                                            · refine ev_st (pc' := 439) (L' := [xS 300, xR a, xU, xI x2, xI x3, xI x4, xI x5, xI x6, xI v8, xI 1, xU, xI v44]) (st' := [xI 3, xS 300, xI x6, xR a]) (fun _ _ _ k => e_aload_n dL_law_434 rfl (i := 1) (x := a) rfl (e_iload dL_law_435 (i := 7) (x := x6) rfl (e_aload_nS dL_law_437 rfl (i := 0) (x := 300) rfl rfl (e_iconst dL_law_438 (k4 rfl) k)))) ?_
                                              refine ev_callS (As := [xS 300, xI 3]) (st := [xI x6, xR a]) (fun v104 => [xI v104, xI x6, xR a]) dL_law_439 mlL_78 rfl rfl rfl rfl rfl rfl (c_L_cell (d := d + 7) h_xs h_xn h_4 3) (fun _ => trivial) (fun _ => rfl) (fun v104 => ?_)
                                              refine ev_callS (As := [xR a, xI x6, xI v104]) (st := []) (fun v105 => [xI (xz v105.1)]) dL_law_442 mlL_116 rfl rfl rfl rfl rfl rfl (c_L_isHeld (d := d) h_a x6 v104) (fun _ => xz01 _) (fun _ => rfl) (fun v105 => ?_)
                                              refine ev_br2 (P := v105.1 = true) (pct := 448) (pcf := 452) (st' := []) (fun _ _ _ kt kf => e_ifeqz dL_law_445 (tgt := 452) rfl kt kf) (fun h106 => ?_) (fun h106 => ?_)
                                              · refine ev_st (pc' := 460) (L' := [xS 300, xR a, xU, xI x2, xI x3, xI x4, xI x5, xI x6, xI v8, xI 1, xU, xI v44]) (st' := []) (fun _ _ _ k => e_iconst dL_law_448 (k4 rfl) (e_goto dL_law_449 (tgt := 453) rfl (e_istore dL_law_453 (i := 9) rfl (L' := [xS 300, xR a, xU, xI x2, xI x3, xI x4, xI x5, xI x6, xI v8, xI 1, xU, xI v44]) rfl (e_iload dL_law_455 (i := 9) (x := 1) rfl (e_ifeqF dL_law_457 (tgt := 515) rfl (by decide) k))))) ?_
                                                refine ev_st (pc' := 462) (L' := [xS 300, xR a, xU, xI x2, xI x3, xI x4, xI x5, xI x6, xI v8, xI 1, xU, xI v44]) (st' := [xI 1, xR a]) (fun _ _ _ k => e_aload_n dL_law_460 rfl (i := 1) (x := a) rfl (e_iconst dL_law_461 (k4 rfl) k)) ?_
                                                refine ev_callV (As := [xI 1]) (st := []) (fun v107 => [xI v107.1]) dL_law_462 mlL_119 (kd9_0 h_a) rfl rfl rfl rfl rfl rfl (c_X9_restore (d := d + 2) h_a 1) (fun _ => trivial) (fun _ => rfl) (fun v107 => ?_)
                                                refine ev_br2 (P := v107.1 = 0) (pct := 468) (pcf := 515) (st' := []) (fun _ _ _ kt kf => e_ifne dL_law_465 (tgt := 515) rfl kt kf) (fun h108 => ?_) (fun h108 => ?_)
                                                · refine ev_st (pc' := 471) (L' := [xS 300, xR a, xU, xI x2, xI x3, xI x4, xI x5, xI x6, xI v8, xI 1, xU, xI v44]) (st' := [xI 6, xR a]) (fun _ _ _ k => e_aload_n dL_law_468 rfl (i := 1) (x := a) rfl (e_bipush dL_law_469 rfl (k4 rfl) k)) ?_
                                                  refine ev_callV (As := [xI 6]) (st := []) (fun v109 => [xI v109]) dL_law_471 mlL_9 (kd9_0 h_a) rfl rfl rfl rfl rfl rfl (c_X9_count (d := d + 6) h_a 6) (fun _ => trivial) (fun _ => rfl) (fun v109 => ?_)
                                                  refine ev_br2 (P := v109 = 0) (pct := 477) (pcf := 515) (st' := []) (fun _ _ _ kt kf => e_ifne dL_law_474 (tgt := 515) rfl kt kf) (fun h110 => ?_) (fun h110 => ?_)
                                                  · refine ev_st (pc' := 479) (L' := [xS 300, xR a, xU, xI x2, xI x3, xI x4, xI x5, xI x6, xI v8, xI 1, xU, xI v44]) (st' := [xI 2, xR a]) (fun _ _ _ k => e_aload_n dL_law_477 rfl (i := 1) (x := a) rfl (e_iconst dL_law_478 (k4 rfl) k)) ?_
                                                    refine ev_callV (As := [xI 2]) (st := []) (fun v111 => [xI v111]) dL_law_479 mlL_9 (kd9_0 h_a) rfl rfl rfl rfl rfl rfl (c_X9_count (d := d + 6) h_a 2) (fun _ => trivial) (fun _ => rfl) (fun v111 => ?_)
                                                    refine ev_br2 (P := v111 = 0) (pct := 485) (pcf := 515) (st' := []) (fun _ _ _ kt kf => e_ifne dL_law_482 (tgt := 515) rfl kt kf) (fun h112 => ?_) (fun h112 => ?_)
                                                    · refine ev_st (pc' := 487) (L' := [xS 300, xR a, xU, xI x2, xI x3, xI x4, xI x5, xI x6, xI v8, xI 1, xU, xI v44]) (st' := [xI 0, xR a]) (fun _ _ _ k => e_aload_n dL_law_485 rfl (i := 1) (x := a) rfl (e_iconst dL_law_486 (k4 rfl) k)) ?_
                                                      refine ev_callV (As := [xI 0]) (st := []) (fun v113 => [xI v113]) dL_law_487 mlL_15 (kd9_0 h_a) rfl rfl rfl rfl rfl rfl (c_X9_effort (d := d + 5) h_a 0) (fun _ => trivial) (fun _ => rfl) (fun v113 => ?_)
                                                      refine ev_br2 (P := v113 = 0) (pct := 493) (pcf := 515) (st' := []) (fun _ _ _ kt kf => e_ifne dL_law_490 (tgt := 515) rfl kt kf) (fun h114 => ?_) (fun h114 => ?_)
                                                      · refine ev_st (pc' := 494) (L' := [xS 300, xR a, xU, xI x2, xI x3, xI x4, xI x5, xI x6, xI v8, xI 1, xU, xI v44]) (st' := [xR a]) (fun _ _ _ k => e_aload_n dL_law_493 rfl (i := 1) (x := a) rfl k) ?_
                                                        refine ev_callV (As := []) (st := []) (fun v115 => [xI v115.1]) dL_law_494 mlL_122 (kd9_0 h_a) rfl rfl rfl rfl rfl rfl (c_X9_forget (d := d + 2) h_a) (fun _ => trivial) (fun _ => rfl) (fun v115 => ?_)
                                                        refine ev_st (pc' := 499) (L' := [xS 300, xR a, xU, xI x2, xI x3, xI x4, xI x5, xI x6, xI v8, xI 1, xU, xI v44]) (st' := [xI 8, xI v115.1]) (fun _ _ _ k => e_bipush dL_law_497 rfl (k4 rfl) k) ?_
                                                        refine ev_br2 (P := v115.1 = 8) (pct := 502) (pcf := 515) (st' := []) (fun _ _ _ kt kf => e_cne dL_law_499 (tgt := 515) rfl kt kf) (fun h116 => ?_) (fun h116 => ?_)
                                                        · refine ev_st (pc' := 504) (L' := [xS 300, xR a, xU, xI x2, xI x3, xI x4, xI x5, xI x6, xI v8, xI 1, xU, xI v44]) (st' := [xI 0, xR a]) (fun _ _ _ k => e_aload_n dL_law_502 rfl (i := 1) (x := a) rfl (e_iconst dL_law_503 (k4 rfl) k)) ?_
                                                          refine ev_callV (As := [xI 0]) (st := []) (fun v117 => [xI v117.1]) dL_law_504 mlL_95 (kd9_0 h_a) rfl rfl rfl rfl rfl rfl (c_X9_fitting (d := d + 2) h_a 0) (fun _ => trivial) (fun _ => rfl) (fun v117 => ?_)
                                                          refine ev_st (pc' := 508) (L' := [xS 300, xR a, xU, xI x2, xI x3, xI x4, xI x5, xI x6, xI v8, xI 1, xU, xI v44]) (st' := [xI 1, xI v117.1]) (fun _ _ _ k => e_iconst dL_law_507 (k4 rfl) k) ?_
                                                          refine ev_br2 (P := v117.1 < 1) (pct := 515) (pcf := 511) (st' := []) (fun _ _ _ kt kf => e_clt dL_law_508 (tgt := 515) rfl kt kf) (fun h118 => ?_) (fun h118 => ?_)
                                                          · exact ev_ret (e_iconst dL_law_515 (k4 rfl) (e_iret dL_law_516))
                                                          · exact ev_ret (e_iconst dL_law_511 (k4 rfl) (e_goto dL_law_512 (tgt := 516) rfl (e_iret dL_law_516)))
                                                        · exact ev_ret (e_iconst dL_law_515 (k4 rfl) (e_iret dL_law_516))
                                                      · exact ev_ret (e_iconst dL_law_515 (k4 rfl) (e_iret dL_law_516))
                                                    · exact ev_ret (e_iconst dL_law_515 (k4 rfl) (e_iret dL_law_516))
                                                  · exact ev_ret (e_iconst dL_law_515 (k4 rfl) (e_iret dL_law_516))
                                                · exact ev_ret (e_iconst dL_law_515 (k4 rfl) (e_iret dL_law_516))
                                              · exact ev_none
                                            · exact ev_none
                                          · exact ev_none
                                        · exact ev_none
                                      · exact ev_none
                                    · exact ev_none
                                  · exact ev_none
                                · exact ev_none
                            · exact ev_none
                  · exact ev_none
              · exact ev_none
            · exact ev_none
          · exact ev_none
        · exact ev_none
      · exact ev_none
    · exact ev_none
  · exact ev_none
