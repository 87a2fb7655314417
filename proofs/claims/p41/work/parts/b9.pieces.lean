/-! The law's function, in pieces. -/
def tlF (xs : Nat → Int) (xn : Int) (x2 x3 x4 x5 x6 v8 : Int) (R : xN) : Option (Bool × xN) :=
(f_X9_best 0 0 R).bind (fun v47 =>
(f_X9_readsBy 0 v47.1 v47.2).bind (fun v48 =>
(f_X9_best 0 2 v48.2).bind (fun v49 =>
if v48.1 = v49.1 then
(f_X9_best 0 0 v49.2).bind (fun v51 =>
(f_X9_cutsFor 0 v51.1 v51.2).bind (fun v52 =>
(f_L_ones v52.1 v52.2).bind (fun v53 =>
(f_X9_best 0 1 v52.2).bind (fun v54 =>
if v53 = v54.1 then
(f_X9_take 0 1 v54.2).bind (fun v56 =>
if v56.1 = 0 then
(f_L_folds 0 v8 (w4 (x2 + x3)) v56.2).bind (fun v58 =>
if v58.1 = true then
(f_X9_effort 0 0 v58.2).bind (fun v60 =>
if v60 = (w4 (x6 - 1)) then
(f_L_isRead 0 x6 v58.2).bind (fun v62 =>
if v62.1 = true then
(f_L_isCut 0 v8 x4 x5 v62.2).bind (fun v64 =>
if v64.1 = true then
(f_L_cell xs xn 3 v64.2).bind (fun v66 =>
(f_L_isHeld 0 x6 v66 v64.2).bind (fun v67 =>
if v67.1 = true then
(f_X9_restore 0 1 v67.2).bind (fun v69 =>
if v69.1 = 0 then
(f_X9_count 0 6 v69.2).bind (fun v71 =>
if v71 = 0 then
(f_X9_count 0 2 v69.2).bind (fun v73 =>
if v73 = 0 then
(f_X9_effort 0 0 v69.2).bind (fun v75 =>
if v75 = 0 then
(f_X9_forget 0 v69.2).bind (fun v77 =>
if v77.1 = 8 then
(f_X9_fitting 0 0 v77.2).bind (fun v79 =>
if v79.1 < 1 then
some (false, v79.2)
else
some (true, v79.2))
else
some (false, v77.2))
else
some (false, v69.2))
else
some (false, v69.2))
else
some (false, v69.2))
else
some (false, v69.2))
else
none))
else
none)
else
none)
else
none)
else
none)
else
none)
else
none))))
else
none)))
def mdF (xs : Nat → Int) (xn : Int) (x2 x3 x4 x5 x6 v8 : Int) (R33 : xN) : Option (Bool × xN) :=
(f_X9_see 0 0 0 0 R33).bind (fun v35 =>
if v35.1 = (-3) then
(f_X9_fitting 0 0 v35.2).bind (fun v37 =>
if v37.1 < 1 then
none
else
(f_X9_fitting 0 1 v37.2).bind (fun v39 =>
if v8 < v39.1 then
none
else
(f_X9_fitting 0 2 v39.2).bind (fun v41 =>
if v41.1 < v8 then
none
else
(f_X9_cutsFor 0 v8 v41.2).bind (fun v43 =>
(f_L_ones v43.1 v43.2).bind (fun v44 =>
(f_X9_best 0 1 v43.2).bind (fun v45 =>
if v45.1 < v44 then
tlF xs xn x2 x3 x4 x5 x6 v8 v45.2
else
(f_X9_best 0 1 v45.2).bind (fun v81 =>
if v81.1 = v44 then
(f_X9_best 0 2 v81.2).bind (fun v83 =>
if v83.1 < (w4 (2 * x6)) then
none
else
tlF xs xn x2 x3 x4 x5 x6 v8 v83.2)
else
none)))))))
else
none)
def hdF (xs : Nat → Int) (xn : Int) (R : xN) : Option (Bool × xN) :=
(f_L_cell xs xn 0 R).bind (fun v1 =>
xlet (Int.tmod v1 3) (fun x2 =>
xlet (Int.tmod (b4shr v1 3) 3) (fun x3 =>
xlet (b4shl 1 x2) (fun x4 =>
xlet (b4shl 1 x3) (fun x5 =>
xlet (w4 (x4 * x5)) (fun x6 =>
(f_L_cell xs xn 1 R).bind (fun v7 =>
(f_L_foldsBy (Int.tmod v7 256) x2 x3 R).bind (fun v8 =>
(f_X9_setSheet 0 x4 x5 R).bind (fun v9 =>
if v9.1 = x6 then
(f_X9_setSpine 0 (Int.tmod (b4shr v1 7) 2) v9.2).bind (fun v11 =>
if v11.1 = 0 then
(f_X9_setSheet 0 3 1 v11.2).bind (fun v13 =>
if v13.1 = (-1) then
(f_X9_printAll 0 v8 v13.2).bind (fun v15 =>
if v15.1 = (w4 (2 * x6)) then
(f_X9_printAll 0 v8 v15.2).bind (fun v17 =>
if v17.1 = 0 then
(f_X9_effort 0 1 v17.2).bind (fun v19 =>
if v19 = (w4 (2 * x6)) then
(f_X9_readsBy 0 v8 v17.2).bind (fun v21 =>
if v21.1 = (w4 (2 * x6)) then
(f_L_cell xs xn 2 v21.2).bind (fun v23 =>
lp_L_law_172 xs xn 0 x2 x3 x4 x5 x6 v8 v23 6000 1 0 v21.2 (fun z31 z32 R33 =>
if z31 = 0 then
none
else
mdF xs xn x2 x3 x4 x5 x6 v8 R33))
else
none)
else
none)
else
none)
else
none)
else
none)
else
none)
else
none)))))))))
theorem law_eq {xs : Nat → Int} {xn : Int} {R : xN} : f_L_law8 xs xn 0 R = hdF xs xn R := rfl
