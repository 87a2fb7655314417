def lp_X10_shutBy_14 (a : Nat) (p1 : Int) (p2 : Int) (p4 : Int) (R : xN) : Nat → Int → Int → (Int → Int → Option (Int)) → Option (Int)
  | 0, _, _, _ => none
  | n + 1, y3, y5, X =>
    if (R a 9) ≤ y5 then
    X y3 y5
    else
    (f_X10_edgeOf a p4 y5 R).bind (fun v3 =>
    if v3 < 0 then
    xlet (b4or y3 0) (fun x5 =>
    xlet (w4 (y5 + 1)) (fun x6 =>
    lp_X10_shutBy_14 a p1 p2 p4 R n x5 x6 X))
    else
    (f_X10_has p2 v3 R).bind (fun v7 =>
    if v7 = true then
    xlet (b4or y3 0) (fun x9 =>
    xlet (w4 (y5 + 1)) (fun x10 =>
    lp_X10_shutBy_14 a p1 p2 p4 R n x9 x10 X))
    else
    (f_X10_spineEdge a R).bind (fun v11 =>
    xlet (if v3 = v11 then 0 else (b4shl 1 v3)) (fun t12 =>
    xlet (b4or y3 t12) (fun x13 =>
    xlet (w4 (y5 + 1)) (fun x14 =>
    lp_X10_shutBy_14 a p1 p2 p4 R n x13 x14 X))))))
def lp_X10_shutBy_5 (a : Nat) (p1 : Int) (p2 : Int) (R : xN) : Nat → Int → Int → (Int → Int → Option (Int)) → Option (Int)
  | 0, _, _, _ => none
  | n + 1, y3, y4, X =>
    if p1 ≤ y4 then
    X y3 y4
    else
    lp_X10_shutBy_14 a p1 p2 y4 R 6000 y3 p1 (fun z15 z16 =>
    xlet (w4 (y4 + 1)) (fun x17 =>
    lp_X10_shutBy_5 a p1 p2 R n z15 x17 X))
def f_X10_shutBy (a : Nat) (i0 : Int) (i1 : Int) (R : xN) : Option (Int) :=
  lp_X10_shutBy_5 a i0 i1 R 6000 0 0 (fun z18 z19 =>
  some z18)
set_option maxRecDepth 20000 in
set_option maxHeartbeats 4000000 in
theorem lc_X10_shutBy_14 {l : Launch} {g : xG} {d : Nat} {A : xA} {a : Nat} (h_a : sh 10 A a) (p1 : Int) (p2 : Int) (p4 : Int) (R : xN) {X : Int → Int → Option (Int)} (hX : ∀ (y3 : Int) (y5 : Int), Ev l g (d + 1) mX10_shutBy 73 [xR a, xI p1, xI p2, xI y3, xI p4, xU, xU] [] A R (fun v : Int => some (xI v)) (fun _ => R) (X y3 y5)) (n : Nat) (y3 : Int) (y5 : Int) : Ev l g (d + 1) mX10_shutBy 14 [xR a, xI p1, xI p2, xI y3, xI p4, xI y5, xU] [] A R (fun v : Int => some (xI v)) (fun _ => R) (lp_X10_shutBy_14 a p1 p2 p4 R n y3 y5 X) := by
  induction n generalizing y3 y5 with
  | zero => exact ev_none
  | succ n ih =>
    rw [lp_X10_shutBy_14]
    refine ev_st (pc' := 20) (L' := [xR a, xI p1, xI p2, xI y3, xI p4, xI y5, xU]) (st' := [xI (R a 9), xI y5]) (fun _ _ _ k => e_iload dX10_shutBy_14 (i := 5) (x := y5) rfl (e_aload_n dX10_shutBy_16 rfl (i := 0) (x := a) rfl (e_geti dX10_shutBy_17 flX10_78 (kd10_0 h_a) (Or.inl rfl) k))) ?_
    refine ev_br2 (P := (R a 9) ≤ y5) (pct := 73) (pcf := 23) (st' := []) (fun _ _ _ kt kf => e_cge dX10_shutBy_20 (tgt := 73) rfl kt kf) (fun h2 => ?_) (fun h2 => ?_)
    · refine ev_st (pc' := 73) (L' := [xR a, xI p1, xI p2, xI y3, xI p4, xU, xU]) (st' := []) (fun _ _ _ k => e_fg [5] k) ?_
      exact hX y3 y5
    · refine ev_st (pc' := 28) (L' := [xR a, xI p1, xI p2, xI y3, xI p4, xI y5, xU]) (st' := [xI y5, xI p4, xR a]) (fun _ _ _ k => e_aload_n dX10_shutBy_23 rfl (i := 0) (x := a) rfl (e_iload dX10_shutBy_24 (i := 4) (x := p4) rfl (e_iload dX10_shutBy_26 (i := 5) (x := y5) rfl k))) ?_
      refine ev_callV (As := [xI p4, xI y5]) (st := []) (fun v3 => [xI v3]) dX10_shutBy_28 mlX10_116 (kd10_0 h_a) rfl rfl rfl rfl rfl rfl (c_X10_edgeOf (d := d) h_a p4 y5) (fun _ => trivial) (fun _ => rfl) (fun v3 => ?_)
      refine ev_st (pc' := 36) (L' := [xR a, xI p1, xI p2, xI y3, xI p4, xI y5, xI v3]) (st' := [xI v3, xI y3]) (fun _ _ _ k => e_istore dX10_shutBy_31 (i := 6) rfl (L' := [xR a, xI p1, xI p2, xI y3, xI p4, xI y5, xI v3]) rfl (e_iload_n dX10_shutBy_33 rfl (i := 3) (x := y3) rfl (e_iload dX10_shutBy_34 (i := 6) (x := v3) rfl k))) ?_
      refine ev_br2 (P := v3 < 0) (pct := 64) (pcf := 39) (st' := [xI y3]) (fun _ _ _ kt kf => e_iflt dX10_shutBy_36 (tgt := 64) rfl kt kf) (fun h4 => ?_) (fun h4 => ?_)
      · refine ev_st (pc' := 66) (L' := [xR a, xI p1, xI p2, xI y3, xI p4, xI y5, xI v3]) (st' := [xI (b4or y3 0)]) (fun _ _ _ k => e_iconst dX10_shutBy_64 (k4 rfl) (e_ior dX10_shutBy_65 k)) ?_
        refine ev_leti (fun x5 ex5 => ?_)
        refine ev_st (pc' := 67) (L' := [xR a, xI p1, xI p2, xI x5, xI p4, xI y5, xI v3]) (st' := []) (fun _ _ _ k => e_istore_n dX10_shutBy_66 rfl (i := 3) rfl (L' := [xR a, xI p1, xI p2, xI x5, xI p4, xI y5, xI v3]) rfl k) ?_
        refine ev_letx (fun x6 ex6 => ?_)
        refine ev_st (pc' := 70) (L' := [xR a, xI p1, xI p2, xI x5, xI p4, xI x6, xI v3]) (st' := []) (fun _ _ _ k => e_iinc dX10_shutBy_67 (i := 5) rfl (x := y5) rfl (y := x6) ex6 (L' := [xR a, xI p1, xI p2, xI x5, xI p4, xI x6, xI v3]) rfl k) ?_
        refine ev_st (pc' := 14) (L' := [xR a, xI p1, xI p2, xI x5, xI p4, xI x6, xU]) (st' := []) (fun _ _ _ k => e_goto dX10_shutBy_70 (tgt := 14) rfl (e_fg [6] k)) ?_
        exact ih x5 x6
      · refine ev_st (pc' := 42) (L' := [xR a, xI p1, xI p2, xI y3, xI p4, xI y5, xI v3]) (st' := [xI v3, xI p2, xI y3]) (fun _ _ _ k => e_iload_n dX10_shutBy_39 rfl (i := 2) (x := p2) rfl (e_iload dX10_shutBy_40 (i := 6) (x := v3) rfl k)) ?_
        refine ev_callS (As := [xI p2, xI v3]) (st := [xI y3]) (fun v7 => [xI (xz v7), xI y3]) dX10_shutBy_42 mlX10_120 rfl rfl rfl rfl rfl rfl (c_X10_has (d := d) p2 v3) (fun _ => xz01 _) (fun _ => rfl) (fun v7 => ?_)
        refine ev_br2 (P := v7 = true) (pct := 64) (pcf := 48) (st' := [xI y3]) (fun _ _ _ kt kf => e_ifnez dX10_shutBy_45 (tgt := 64) rfl kt kf) (fun h8 => ?_) (fun h8 => ?_)
        · refine ev_st (pc' := 66) (L' := [xR a, xI p1, xI p2, xI y3, xI p4, xI y5, xI v3]) (st' := [xI (b4or y3 0)]) (fun _ _ _ k => e_iconst dX10_shutBy_64 (k4 rfl) (e_ior dX10_shutBy_65 k)) ?_
          refine ev_leti (fun x9 ex9 => ?_)
          refine ev_st (pc' := 67) (L' := [xR a, xI p1, xI p2, xI x9, xI p4, xI y5, xI v3]) (st' := []) (fun _ _ _ k => e_istore_n dX10_shutBy_66 rfl (i := 3) rfl (L' := [xR a, xI p1, xI p2, xI x9, xI p4, xI y5, xI v3]) rfl k) ?_
          refine ev_letx (fun x10 ex10 => ?_)
          refine ev_st (pc' := 70) (L' := [xR a, xI p1, xI p2, xI x9, xI p4, xI x10, xI v3]) (st' := []) (fun _ _ _ k => e_iinc dX10_shutBy_67 (i := 5) rfl (x := y5) rfl (y := x10) ex10 (L' := [xR a, xI p1, xI p2, xI x9, xI p4, xI x10, xI v3]) rfl k) ?_
          refine ev_st (pc' := 14) (L' := [xR a, xI p1, xI p2, xI x9, xI p4, xI x10, xU]) (st' := []) (fun _ _ _ k => e_goto dX10_shutBy_70 (tgt := 14) rfl (e_fg [6] k)) ?_
          exact ih x9 x10
        · refine ev_st (pc' := 51) (L' := [xR a, xI p1, xI p2, xI y3, xI p4, xI y5, xI v3]) (st' := [xR a, xI v3, xI y3]) (fun _ _ _ k => e_iload dX10_shutBy_48 (i := 6) (x := v3) rfl (e_aload_n dX10_shutBy_50 rfl (i := 0) (x := a) rfl k)) ?_
          refine ev_callV (As := []) (st := [xI v3, xI y3]) (fun v11 => [xI v11, xI v3, xI y3]) dX10_shutBy_51 mlX10_124 (kd10_0 h_a) rfl rfl rfl rfl rfl rfl (c_X10_spineEdge (d := d) h_a) (fun _ => trivial) (fun _ => rfl) (fun v11 => ?_)
          refine ev_tern (P := v3 = v11) (a := 0) (b := (b4shl 1 v3)) (pct := 64) (pcf := 57) (J := 65) (st' := [xI y3]) (fun _ _ _ kt kf => e_ceq dX10_shutBy_54 (tgt := 64) rfl kt kf) (fun _ _ _ k => e_iconst dX10_shutBy_64 (k4 rfl) k) (fun _ _ _ k => e_iconst dX10_shutBy_57 (k4 rfl) (e_iload dX10_shutBy_58 (i := 6) (x := v3) rfl (e_ishl dX10_shutBy_60 (e_goto dX10_shutBy_61 (tgt := 65) rfl k)))) (fun t12 et12 => ?_)
          refine ev_st (pc' := 66) (L' := [xR a, xI p1, xI p2, xI y3, xI p4, xI y5, xI v3]) (st' := [xI (b4or y3 t12)]) (fun _ _ _ k => e_ior dX10_shutBy_65 k) ?_
          refine ev_leti (fun x13 ex13 => ?_)
          refine ev_st (pc' := 67) (L' := [xR a, xI p1, xI p2, xI x13, xI p4, xI y5, xI v3]) (st' := []) (fun _ _ _ k => e_istore_n dX10_shutBy_66 rfl (i := 3) rfl (L' := [xR a, xI p1, xI p2, xI x13, xI p4, xI y5, xI v3]) rfl k) ?_
          refine ev_letx (fun x14 ex14 => ?_)
          refine ev_st (pc' := 70) (L' := [xR a, xI p1, xI p2, xI x13, xI p4, xI x14, xI v3]) (st' := []) (fun _ _ _ k => e_iinc dX10_shutBy_67 (i := 5) rfl (x := y5) rfl (y := x14) ex14 (L' := [xR a, xI p1, xI p2, xI x13, xI p4, xI x14, xI v3]) rfl k) ?_
          refine ev_st (pc' := 14) (L' := [xR a, xI p1, xI p2, xI x13, xI p4, xI x14, xU]) (st' := []) (fun _ _ _ k => e_goto dX10_shutBy_70 (tgt := 14) rfl (e_fg [6] k)) ?_
          exact ih x13 x14
set_option maxRecDepth 20000 in
set_option maxHeartbeats 4000000 in
theorem lc_X10_shutBy_5 {l : Launch} {g : xG} {d : Nat} {A : xA} {a : Nat} (h_a : sh 10 A a) (p1 : Int) (p2 : Int) (R : xN) {X : Int → Int → Option (Int)} (hX : ∀ (y3 : Int) (y4 : Int), Ev l g (d + 1) mX10_shutBy 79 [xU, xU, xU, xI y3, xU, xU, xU] [] A R (fun v : Int => some (xI v)) (fun _ => R) (X y3 y4)) (n : Nat) (y3 : Int) (y4 : Int) : Ev l g (d + 1) mX10_shutBy 5 [xR a, xI p1, xI p2, xI y3, xI y4, xU, xU] [] A R (fun v : Int => some (xI v)) (fun _ => R) (lp_X10_shutBy_5 a p1 p2 R n y3 y4 X) := by
  induction n generalizing y3 y4 with
  | zero => exact ev_none
  | succ n ih =>
    rw [lp_X10_shutBy_5]
    refine ev_st (pc' := 8) (L' := [xR a, xI p1, xI p2, xI y3, xI y4, xU, xU]) (st' := [xI p1, xI y4]) (fun _ _ _ k => e_iload dX10_shutBy_5 (i := 4) (x := y4) rfl (e_iload_n dX10_shutBy_7 rfl (i := 1) (x := p1) rfl k)) ?_
    refine ev_br2 (P := p1 ≤ y4) (pct := 79) (pcf := 11) (st' := []) (fun _ _ _ kt kf => e_cge dX10_shutBy_8 (tgt := 79) rfl kt kf) (fun h1 => ?_) (fun h1 => ?_)
    · refine ev_st (pc' := 79) (L' := [xU, xU, xU, xI y3, xU, xU, xU]) (st' := []) (fun _ _ _ k => e_fg [0, 1, 2, 4] k) ?_
      exact hX y3 y4
    · refine ev_st (pc' := 14) (L' := [xR a, xI p1, xI p2, xI y3, xI y4, xI p1, xU]) (st' := []) (fun _ _ _ k => e_iload_n dX10_shutBy_11 rfl (i := 1) (x := p1) rfl (e_istore dX10_shutBy_12 (i := 5) rfl (L' := [xR a, xI p1, xI p2, xI y3, xI y4, xI p1, xU]) rfl k)) ?_
      refine lc_X10_shutBy_14 h_a p1 p2 y4 R (fun z15 z16 => ?_) 6000 y3 p1
      refine ev_letx (fun x17 ex17 => ?_)
      refine ev_st (pc' := 76) (L' := [xR a, xI p1, xI p2, xI z15, xI x17, xU, xU]) (st' := []) (fun _ _ _ k => e_iinc dX10_shutBy_73 (i := 4) rfl (x := y4) rfl (y := x17) ex17 (L' := [xR a, xI p1, xI p2, xI z15, xI x17, xU, xU]) rfl k) ?_
      refine ev_st (pc' := 5) (L' := [xR a, xI p1, xI p2, xI z15, xI x17, xU, xU]) (st' := []) (fun _ _ _ k => e_goto dX10_shutBy_76 (tgt := 5) rfl k) ?_
      exact ih z15 x17
set_option maxRecDepth 20000 in
set_option maxHeartbeats 4000000 in
theorem c_X10_shutBy {l : Launch} {g : xG} {d : Nat} {A : xA} {R : xN} {a : Nat} (h_a : sh 10 A a) (i0 : Int) (i1 : Int) : Ev l g (d + 1) mX10_shutBy 0 [xR a, xI i0, xI i1, xU, xU, xU, xU] [] A R (fun v : Int => some (xI v)) (fun _ => R) (f_X10_shutBy a i0 i1 R) := by
  rw [f_X10_shutBy]
  refine ev_st (pc' := 5) (L' := [xR a, xI i0, xI i1, xI 0, xI 0, xU, xU]) (st' := []) (fun _ _ _ k => e_iconst dX10_shutBy_0 (k4 rfl) (e_istore_n dX10_shutBy_1 rfl (i := 3) rfl (L' := [xR a, xI i0, xI i1, xI 0, xU, xU, xU]) rfl (e_iconst dX10_shutBy_2 (k4 rfl) (e_istore dX10_shutBy_3 (i := 4) rfl (L' := [xR a, xI i0, xI i1, xI 0, xI 0, xU, xU]) rfl k)))) ?_
  refine lc_X10_shutBy_5 h_a i0 i1 R (fun z18 z19 => ?_) 6000 0 0
  exact ev_ret (e_iload_n dX10_shutBy_79 rfl (i := 3) (x := z18) rfl (e_iret dX10_shutBy_80))
def f_X10_isHidden (a : Nat) (i0 : Int) (R : xN) : Option (Bool) :=
  (f_X10_shutBy a (w4 (Int.tdiv (w4 (i0 + 1)) 2)) (R (a + 1) 8) R).bind (fun v1 =>
  if v1 = 0 then
  some false
  else
  some true)
set_option maxRecDepth 20000 in
set_option maxHeartbeats 4000000 in
theorem c_X10_isHidden {l : Launch} {g : xG} {d : Nat} {A : xA} {R : xN} {a : Nat} (h_a : sh 10 A a) (i0 : Int) : Ev l g (d + 2) mX10_isHidden 0 [xR a, xI i0] [] A R (fun v : Bool => some (xI (xz v))) (fun _ => R) (f_X10_isHidden a i0 R) := by
  rw [f_X10_isHidden]
  refine ev_st (pc' := 13) (L' := [xR a, xI i0]) (st' := [xI (R (a + 1) 8), xI (w4 (Int.tdiv (w4 (i0 + 1)) 2)), xR a]) (fun _ _ _ k => e_aload_n dX10_isHidden_0 rfl (i := 0) (x := a) rfl (e_iload_n dX10_isHidden_1 rfl (i := 1) (x := i0) rfl (e_iconst dX10_isHidden_2 (k4 rfl) (e_iadd dX10_isHidden_3 (e_iconst dX10_isHidden_4 (k4 rfl) (e_idiv dX10_isHidden_5 (by decide) (e_aload_n dX10_isHidden_6 rfl (i := 0) (x := a) rfl (e_getr dX10_isHidden_7 flX10_7 (kd10_0 h_a) rfl (rf10_0_0 h_a) (e_bipush dX10_isHidden_10 rfl (k4 rfl) (e_iald dX10_isHidden_12 (kd10_1 h_a) (by decide) (by decide) k)))))))))) ?_
  refine ev_callV (As := [xI (w4 (Int.tdiv (w4 (i0 + 1)) 2)), xI (R (a + 1) 8)]) (st := []) (fun v1 => [xI v1]) dX10_isHidden_13 mlX10_127 (kd10_0 h_a) rfl rfl rfl rfl rfl rfl (c_X10_shutBy (d := d) h_a (w4 (Int.tdiv (w4 (i0 + 1)) 2)) (R (a + 1) 8)) (fun _ => trivial) (fun _ => rfl) (fun v1 => ?_)
  refine ev_br2 (P := v1 = 0) (pct := 23) (pcf := 19) (st' := []) (fun _ _ _ kt kf => e_ifeq dX10_isHidden_16 (tgt := 23) rfl kt kf) (fun h2 => ?_) (fun h2 => ?_)
  · exact ev_ret (e_iconst dX10_isHidden_23 (k4 rfl) (e_iret dX10_isHidden_24))
  · exact ev_ret (e_iconst dX10_isHidden_19 (k4 rfl) (e_goto dX10_isHidden_20 (tgt := 24) rfl (e_iret dX10_isHidden_24)))
def f_X10_isItsOwn (a : Nat) (i0 : Int) (R : xN) : Option (Bool) :=
  (f_X10_printedOn a i0 R).bind (fun v1 =>
  if v1 = i0 then
  (f_X10_isUpright a i0 R).bind (fun v3 =>
  if v3 = true then
  some true
  else
  some false)
  else
  some false)
set_option maxRecDepth 20000 in
set_option maxHeartbeats 4000000 in
theorem c_X10_isItsOwn {l : Launch} {g : xG} {d : Nat} {A : xA} {R : xN} {a : Nat} (h_a : sh 10 A a) (i0 : Int) : Ev l g (d + 2) mX10_isItsOwn 0 [xR a, xI i0] [] A R (fun v : Bool => some (xI (xz v))) (fun _ => R) (f_X10_isItsOwn a i0 R) := by
  rw [f_X10_isItsOwn]
  refine ev_st (pc' := 2) (L' := [xR a, xI i0]) (st' := [xI i0, xR a]) (fun _ _ _ k => e_aload_n dX10_isItsOwn_0 rfl (i := 0) (x := a) rfl (e_iload_n dX10_isItsOwn_1 rfl (i := 1) (x := i0) rfl k)) ?_
  refine ev_callV (As := [xI i0]) (st := []) (fun v1 => [xI v1]) dX10_isItsOwn_2 mlX10_130 (kd10_0 h_a) rfl rfl rfl rfl rfl rfl (c_X10_printedOn (d := d) h_a i0) (fun _ => trivial) (fun _ => rfl) (fun v1 => ?_)
  refine ev_st (pc' := 6) (L' := [xR a, xI i0]) (st' := [xI i0, xI v1]) (fun _ _ _ k => e_iload_n dX10_isItsOwn_5 rfl (i := 1) (x := i0) rfl k) ?_
  refine ev_br2 (P := v1 = i0) (pct := 9) (pcf := 21) (st' := []) (fun _ _ _ kt kf => e_cne dX10_isItsOwn_6 (tgt := 21) rfl kt kf) (fun h2 => ?_) (fun h2 => ?_)
  · refine ev_st (pc' := 11) (L' := [xR a, xI i0]) (st' := [xI i0, xR a]) (fun _ _ _ k => e_aload_n dX10_isItsOwn_9 rfl (i := 0) (x := a) rfl (e_iload_n dX10_isItsOwn_10 rfl (i := 1) (x := i0) rfl k)) ?_
    refine ev_callV (As := [xI i0]) (st := []) (fun v3 => [xI (xz v3)]) dX10_isItsOwn_11 mlX10_133 (kd10_0 h_a) rfl rfl rfl rfl rfl rfl (c_X10_isUpright (d := d) h_a i0) (fun _ => xz01 _) (fun _ => rfl) (fun v3 => ?_)
    refine ev_br2 (P := v3 = true) (pct := 17) (pcf := 21) (st' := []) (fun _ _ _ kt kf => e_ifeqz dX10_isItsOwn_14 (tgt := 21) rfl kt kf) (fun h4 => ?_) (fun h4 => ?_)
    · exact ev_ret (e_iconst dX10_isItsOwn_17 (k4 rfl) (e_goto dX10_isItsOwn_18 (tgt := 22) rfl (e_iret dX10_isItsOwn_22)))
    · exact ev_ret (e_iconst dX10_isItsOwn_21 (k4 rfl) (e_iret dX10_isItsOwn_22))
  · exact ev_ret (e_iconst dX10_isItsOwn_21 (k4 rfl) (e_iret dX10_isItsOwn_22))
def f_X10_isSide (i0 : Int) (R : xN) : Option (Bool) :=
  if i0 = 1 then
  some true
  else
  if i0 = 2 then
  some true
  else
  if i0 = 4 then
  some true
  else
  some false
set_option maxRecDepth 20000 in
set_option maxHeartbeats 4000000 in
theorem c_X10_isSide {l : Launch} {g : xG} {d : Nat} {A : xA} {R : xN}  (i0 : Int) : Ev l g (d) mX10_isSide 0 [xI i0] [] A R (fun v : Bool => some (xI (xz v))) (fun _ => R) (f_X10_isSide i0 R) := by
  rw [f_X10_isSide]
  refine ev_st (pc' := 2) (L' := [xI i0]) (st' := [xI 1, xI i0]) (fun _ _ _ k => e_iload_n dX10_isSide_0 rfl (i := 0) (x := i0) rfl (e_iconst dX10_isSide_1 (k4 rfl) k)) ?_
  refine ev_br2 (P := i0 = 1) (pct := 15) (pcf := 5) (st' := []) (fun _ _ _ kt kf => e_ceq dX10_isSide_2 (tgt := 15) rfl kt kf) (fun h1 => ?_) (fun h1 => ?_)
  · exact ev_ret (e_iconst dX10_isSide_15 (k4 rfl) (e_goto dX10_isSide_16 (tgt := 20) rfl (e_iret dX10_isSide_20)))
  · refine ev_st (pc' := 7) (L' := [xI i0]) (st' := [xI 2, xI i0]) (fun _ _ _ k => e_iload_n dX10_isSide_5 rfl (i := 0) (x := i0) rfl (e_iconst dX10_isSide_6 (k4 rfl) k)) ?_
    refine ev_br2 (P := i0 = 2) (pct := 15) (pcf := 10) (st' := []) (fun _ _ _ kt kf => e_ceq dX10_isSide_7 (tgt := 15) rfl kt kf) (fun h2 => ?_) (fun h2 => ?_)
    · exact ev_ret (e_iconst dX10_isSide_15 (k4 rfl) (e_goto dX10_isSide_16 (tgt := 20) rfl (e_iret dX10_isSide_20)))
    · refine ev_st (pc' := 12) (L' := [xI i0]) (st' := [xI 4, xI i0]) (fun _ _ _ k => e_iload_n dX10_isSide_10 rfl (i := 0) (x := i0) rfl (e_iconst dX10_isSide_11 (k4 rfl) k)) ?_
      refine ev_br2 (P := i0 = 4) (pct := 15) (pcf := 19) (st' := []) (fun _ _ _ kt kf => e_cne dX10_isSide_12 (tgt := 19) rfl kt kf) (fun h3 => ?_) (fun h3 => ?_)
      · exact ev_ret (e_iconst dX10_isSide_15 (k4 rfl) (e_goto dX10_isSide_16 (tgt := 20) rfl (e_iret dX10_isSide_20)))
      · exact ev_ret (e_iconst dX10_isSide_19 (k4 rfl) (e_iret dX10_isSide_20))
def f_X10_setSheet (a : Nat) (i0 : Int) (i1 : Int) (R : xN) : Option (Int × xN) :=
  (f_X10_isSide i0 R).bind (fun v1 =>
  if v1 = true then
  (f_X10_isSide i1 R).bind (fun v3 =>
  if v3 = true then
  (f_X10_act a R).bind (fun v5 =>
  xlet (xup v5 (a + 1) 0 i0) (fun R6 =>
  xlet (xup R6 (a + 1) 1 i1) (fun R7 =>
  xlet (xup R7 (a + 1) 2 0) (fun R8 =>
  xlet (xup R8 (a + 1) 8 0) (fun R9 =>
  xlet (xup R9 (a + 1) 9 0) (fun R10 =>
  xlet (xup R10 (a + 1) 12 0) (fun R11 =>
  (f_X10_noPrint a R11).bind (fun v12 =>
  some ((w4 (i0 * i1)), v12)))))))))
  else
  some ((-1), R))
  else
  some ((-1), R))
set_option maxRecDepth 20000 in
set_option maxHeartbeats 4000000 in
theorem c_X10_setSheet {l : Launch} {g : xG} {d : Nat} {A : xA} {R : xN} {a : Nat} (h_a : sh 10 A a) (i0 : Int) (i1 : Int) : Ev l g (d + 2) mX10_setSheet 0 [xR a, xI i0, xI i1] [] A R (fun v : Int × xN => some (xI v.1)) (fun v => v.2) (f_X10_setSheet a i0 i1 R) := by
  rw [f_X10_setSheet]
  refine ev_st (pc' := 1) (L' := [xR a, xI i0, xI i1]) (st' := [xI i0]) (fun _ _ _ k => e_iload_n dX10_setSheet_0 rfl (i := 1) (x := i0) rfl k) ?_
  refine ev_callS (As := [xI i0]) (st := []) (fun v1 => [xI (xz v1)]) dX10_setSheet_1 mlX10_136 rfl rfl rfl rfl rfl rfl (c_X10_isSide (d := d + 1) i0) (fun _ => xz01 _) (fun _ => rfl) (fun v1 => ?_)
  refine ev_br2 (P := v1 = true) (pct := 7) (pcf := 14) (st' := []) (fun _ _ _ kt kf => e_ifeqz dX10_setSheet_4 (tgt := 14) rfl kt kf) (fun h2 => ?_) (fun h2 => ?_)
  · refine ev_st (pc' := 8) (L' := [xR a, xI i0, xI i1]) (st' := [xI i1]) (fun _ _ _ k => e_iload_n dX10_setSheet_7 rfl (i := 2) (x := i1) rfl k) ?_
    refine ev_callS (As := [xI i1]) (st := []) (fun v3 => [xI (xz v3)]) dX10_setSheet_8 mlX10_136 rfl rfl rfl rfl rfl rfl (c_X10_isSide (d := d + 1) i1) (fun _ => xz01 _) (fun _ => rfl) (fun v3 => ?_)
    refine ev_br2 (P := v3 = true) (pct := 16) (pcf := 14) (st' := []) (fun _ _ _ kt kf => e_ifnez dX10_setSheet_11 (tgt := 16) rfl kt kf) (fun h4 => ?_) (fun h4 => ?_)
    · refine ev_st (pc' := 17) (L' := [xR a, xI i0, xI i1]) (st' := [xR a]) (fun _ _ _ k => e_aload_n dX10_setSheet_16 rfl (i := 0) (x := a) rfl k) ?_
      refine ev_callV (As := []) (st := []) (fun v5 => []) dX10_setSheet_17 mlX10_139 (kd10_0 h_a) rfl rfl rfl rfl rfl rfl (c_X10_act (d := d) h_a) (fun _ => trivial) (fun _ => rfl) (fun v5 => ?_)
      refine ev_st (pc' := 27) (L' := [xR a, xI i0, xI i1]) (st' := []) (fun _ _ _ k => e_aload_n dX10_setSheet_20 rfl (i := 0) (x := a) rfl (e_getr dX10_setSheet_21 flX10_7 (kd10_0 h_a) rfl (rf10_0_0 h_a) (e_iconst dX10_setSheet_24 (k4 rfl) (e_iload_n dX10_setSheet_25 rfl (i := 1) (x := i0) rfl (e_iast dX10_setSheet_26 (kd10_1 h_a) (by decide) (by decide) k))))) ?_
      refine ev_letR (fun R6 eR6 => ?_)
      refine ev_st (pc' := 34) (L' := [xR a, xI i0, xI i1]) (st' := []) (fun _ _ _ k => e_aload_n dX10_setSheet_27 rfl (i := 0) (x := a) rfl (e_getr dX10_setSheet_28 flX10_7 (kd10_0 h_a) rfl (rf10_0_0 h_a) (e_iconst dX10_setSheet_31 (k4 rfl) (e_iload_n dX10_setSheet_32 rfl (i := 2) (x := i1) rfl (e_iast dX10_setSheet_33 (kd10_1 h_a) (by decide) (by decide) k))))) ?_
      refine ev_letR (fun R7 eR7 => ?_)
      refine ev_st (pc' := 41) (L' := [xR a, xI i0, xI i1]) (st' := []) (fun _ _ _ k => e_aload_n dX10_setSheet_34 rfl (i := 0) (x := a) rfl (e_getr dX10_setSheet_35 flX10_7 (kd10_0 h_a) rfl (rf10_0_0 h_a) (e_iconst dX10_setSheet_38 (k4 rfl) (e_iconst dX10_setSheet_39 (k4 rfl) (e_iast dX10_setSheet_40 (kd10_1 h_a) (by decide) (by decide) k))))) ?_
      refine ev_letR (fun R8 eR8 => ?_)
      refine ev_st (pc' := 49) (L' := [xR a, xI i0, xI i1]) (st' := []) (fun _ _ _ k => e_aload_n dX10_setSheet_41 rfl (i := 0) (x := a) rfl (e_getr dX10_setSheet_42 flX10_7 (kd10_0 h_a) rfl (rf10_0_0 h_a) (e_bipush dX10_setSheet_45 rfl (k4 rfl) (e_iconst dX10_setSheet_47 (k4 rfl) (e_iast dX10_setSheet_48 (kd10_1 h_a) (by decide) (by decide) k))))) ?_
      refine ev_letR (fun R9 eR9 => ?_)
      refine ev_st (pc' := 57) (L' := [xR a, xI i0, xI i1]) (st' := []) (fun _ _ _ k => e_aload_n dX10_setSheet_49 rfl (i := 0) (x := a) rfl (e_getr dX10_setSheet_50 flX10_7 (kd10_0 h_a) rfl (rf10_0_0 h_a) (e_bipush dX10_setSheet_53 rfl (k4 rfl) (e_iconst dX10_setSheet_55 (k4 rfl) (e_iast dX10_setSheet_56 (kd10_1 h_a) (by decide) (by decide) k))))) ?_
      refine ev_letR (fun R10 eR10 => ?_)
      refine ev_st (pc' := 65) (L' := [xR a, xI i0, xI i1]) (st' := []) (fun _ _ _ k => e_aload_n dX10_setSheet_57 rfl (i := 0) (x := a) rfl (e_getr dX10_setSheet_58 flX10_7 (kd10_0 h_a) rfl (rf10_0_0 h_a) (e_bipush dX10_setSheet_61 rfl (k4 rfl) (e_iconst dX10_setSheet_63 (k4 rfl) (e_iast dX10_setSheet_64 (kd10_1 h_a) (by decide) (by decide) k))))) ?_
      refine ev_letR (fun R11 eR11 => ?_)
      refine ev_st (pc' := 66) (L' := [xR a, xI i0, xI i1]) (st' := [xR a]) (fun _ _ _ k => e_aload_n dX10_setSheet_65 rfl (i := 0) (x := a) rfl k) ?_
      refine ev_callV (As := []) (st := []) (fun v12 => []) dX10_setSheet_66 mlX10_58 (kd10_0 h_a) rfl rfl rfl rfl rfl rfl (c_X10_noPrint (d := d + 1) h_a) (fun _ => trivial) (fun _ => rfl) (fun v12 => ?_)
      exact ev_ret (e_iload_n dX10_setSheet_69 rfl (i := 1) (x := i0) rfl (e_iload_n dX10_setSheet_70 rfl (i := 2) (x := i1) rfl (e_imul dX10_setSheet_71 (e_iret dX10_setSheet_72))))
    · exact ev_ret (e_iconst dX10_setSheet_14 (k4 rfl) (e_iret dX10_setSheet_15))
  · exact ev_ret (e_iconst dX10_setSheet_14 (k4 rfl) (e_iret dX10_setSheet_15))
def f_X10_fold (a : Nat) (i0 : Int) (R : xN) : Option (Int × xN) :=
  (f_X10_in i0 1 4 R).bind (fun v1 =>
  if v1 = true then
  (f_X10_layNow a R).bind (fun v3 =>
  (f_X10_mayFold a i0 v3).bind (fun v4 =>
  if v4 = true then
  (f_X10_isHeld a v3).bind (fun v6 =>
  if v6 = true then
  some ((-2), v3)
  else
  (f_X10_act a v3).bind (fun v8 =>
  xlet (xup v8 (a + 1) 86 (w4 ((v8 (a + 1) 86) + (v8 a 9)))) (fun R9 =>
  if 0 ≤ (w4 (3 + (R9 (a + 1) 2))) ∧ (w4 (3 + (R9 (a + 1) 2))) < 464 then
  xlet (xup R9 (a + 1) ((w4 (3 + (R9 (a + 1) 2)))).toNat i0) (fun R11 =>
  xlet (xup R11 (a + 1) 2 (w4 ((R11 (a + 1) 2) + 1))) (fun R12 =>
  some ((w4 (2 * (R12 a 9))), R12)))
  else none)))
  else
  some ((-2), v3)))
  else
  some ((-1), R))
set_option maxRecDepth 20000 in
set_option maxHeartbeats 4000000 in
theorem c_X10_fold {l : Launch} {g : xG} {d : Nat} {A : xA} {R : xN} {a : Nat} (h_a : sh 10 A a) (i0 : Int) : Ev l g (d + 3) mX10_fold 0 [xR a, xI i0] [] A R (fun v : Int × xN => some (xI v.1)) (fun v => v.2) (f_X10_fold a i0 R) := by
  rw [f_X10_fold]
  refine ev_st (pc' := 6) (L' := [xR a, xI i0]) (st' := [xL 4, xL 1, xL i0]) (fun _ _ _ k => e_iload_n dX10_fold_0 rfl (i := 1) (x := i0) rfl (e_i2l dX10_fold_1 (e_lconst dX10_fold_2 (i := 1) rfl (k8 rfl) (e_ldc2 dX10_fold_3 ckX10_99 (k8 rfl) k)))) ?_
  refine ev_callS (As := [xL i0, xL 1, xL 4]) (st := []) (fun v1 => [xI (xz v1)]) dX10_fold_6 mlX10_101 rfl rfl rfl rfl rfl rfl (c_X10_in (d := d + 2) i0 1 4) (fun _ => xz01 _) (fun _ => rfl) (fun v1 => ?_)
  refine ev_br2 (P := v1 = true) (pct := 14) (pcf := 12) (st' := []) (fun _ _ _ kt kf => e_ifnez dX10_fold_9 (tgt := 14) rfl kt kf) (fun h2 => ?_) (fun h2 => ?_)
  · refine ev_st (pc' := 15) (L' := [xR a, xI i0]) (st' := [xR a]) (fun _ _ _ k => e_aload_n dX10_fold_14 rfl (i := 0) (x := a) rfl k) ?_
    refine ev_callV (As := []) (st := []) (fun v3 => []) dX10_fold_15 mlX10_92 (kd10_0 h_a) rfl rfl rfl rfl rfl rfl (c_X10_layNow (d := d) h_a) (fun _ => trivial) (fun _ => rfl) (fun v3 => ?_)
    refine ev_st (pc' := 20) (L' := [xR a, xI i0]) (st' := [xI i0, xR a]) (fun _ _ _ k => e_aload_n dX10_fold_18 rfl (i := 0) (x := a) rfl (e_iload_n dX10_fold_19 rfl (i := 1) (x := i0) rfl k)) ?_
    refine ev_callV (As := [xI i0]) (st := []) (fun v4 => [xI (xz v4)]) dX10_fold_20 mlX10_105 (kd10_0 h_a) rfl rfl rfl rfl rfl rfl (c_X10_mayFold (d := d + 2) h_a i0) (fun _ => xz01 _) (fun _ => rfl) (fun v4 => ?_)
    refine ev_br2 (P := v4 = true) (pct := 26) (pcf := 33) (st' := []) (fun _ _ _ kt kf => e_ifeqz dX10_fold_23 (tgt := 33) rfl kt kf) (fun h5 => ?_) (fun h5 => ?_)
    · refine ev_st (pc' := 27) (L' := [xR a, xI i0]) (st' := [xR a]) (fun _ _ _ k => e_aload_n dX10_fold_26 rfl (i := 0) (x := a) rfl k) ?_
      refine ev_callV (As := []) (st := []) (fun v6 => [xI (xz v6)]) dX10_fold_27 mlX10_142 (kd10_0 h_a) rfl rfl rfl rfl rfl rfl (c_X10_isHeld (d := d + 2) h_a) (fun _ => xz01 _) (fun _ => rfl) (fun v6 => ?_)
      refine ev_br2 (P := v6 = true) (pct := 33) (pcf := 36) (st' := []) (fun _ _ _ kt kf => e_ifeqz dX10_fold_30 (tgt := 36) rfl kt kf) (fun h7 => ?_) (fun h7 => ?_)
      · exact ev_ret (e_bipush dX10_fold_33 rfl (k4 rfl) (e_iret dX10_fold_35))
      · refine ev_st (pc' := 37) (L' := [xR a, xI i0]) (st' := [xR a]) (fun _ _ _ k => e_aload_n dX10_fold_36 rfl (i := 0) (x := a) rfl k) ?_
        refine ev_callV (As := []) (st := []) (fun v8 => []) dX10_fold_37 mlX10_139 (kd10_0 h_a) rfl rfl rfl rfl rfl rfl (c_X10_act (d := d + 1) h_a) (fun _ => trivial) (fun _ => rfl) (fun v8 => ?_)
        refine ev_st (pc' := 54) (L' := [xR a, xI i0]) (st' := []) (fun _ _ _ k => e_aload_n dX10_fold_40 rfl (i := 0) (x := a) rfl (e_getr dX10_fold_41 flX10_7 (kd10_0 h_a) rfl (rf10_0_0 h_a) (e_bipush dX10_fold_44 rfl (k4 rfl) (e_dup2 dX10_fold_46 (e_iald dX10_fold_47 (kd10_1 h_a) (by decide) (by decide) (e_aload_n dX10_fold_48 rfl (i := 0) (x := a) rfl (e_geti dX10_fold_49 flX10_78 (kd10_0 h_a) (Or.inl rfl) (e_iadd dX10_fold_52 (e_iast dX10_fold_53 (kd10_1 h_a) (by decide) (by decide) k))))))))) ?_
        refine ev_letR (fun R9 eR9 => ?_)
        refine ev_st (pc' := 67) (L' := [xR a, xI i0]) (st' := [xI i0, xI (w4 (3 + (R9 (a + 1) 2))), xR (a + 1)]) (fun _ _ _ k => e_aload_n dX10_fold_54 rfl (i := 0) (x := a) rfl (e_getr dX10_fold_55 flX10_7 (kd10_0 h_a) rfl (rf10_0_0 h_a) (e_iconst dX10_fold_58 (k4 rfl) (e_aload_n dX10_fold_59 rfl (i := 0) (x := a) rfl (e_getr dX10_fold_60 flX10_7 (kd10_0 h_a) rfl (rf10_0_0 h_a) (e_iconst dX10_fold_63 (k4 rfl) (e_iald dX10_fold_64 (kd10_1 h_a) (by decide) (by decide) (e_iadd dX10_fold_65 (e_iload_n dX10_fold_66 rfl (i := 1) (x := i0) rfl k))))))))) ?_
        refine ev_chk (fun h10 => ?_)
        refine ev_st (pc' := 68) (L' := [xR a, xI i0]) (st' := []) (fun _ _ _ k => e_iast dX10_fold_67 (kd10_1 h_a) h10.1 h10.2 k) ?_
        refine ev_letR (fun R11 eR11 => ?_)
        refine ev_st (pc' := 78) (L' := [xR a, xI i0]) (st' := []) (fun _ _ _ k => e_aload_n dX10_fold_68 rfl (i := 0) (x := a) rfl (e_getr dX10_fold_69 flX10_7 (kd10_0 h_a) rfl (rf10_0_0 h_a) (e_iconst dX10_fold_72 (k4 rfl) (e_dup2 dX10_fold_73 (e_iald dX10_fold_74 (kd10_1 h_a) (by decide) (by decide) (e_iconst dX10_fold_75 (k4 rfl) (e_iadd dX10_fold_76 (e_iast dX10_fold_77 (kd10_1 h_a) (by decide) (by decide) k)))))))) ?_
        refine ev_letR (fun R12 eR12 => ?_)
        exact ev_ret (e_iconst dX10_fold_78 (k4 rfl) (e_aload_n dX10_fold_79 rfl (i := 0) (x := a) rfl (e_geti dX10_fold_80 flX10_78 (kd10_0 h_a) (Or.inl rfl) (e_imul dX10_fold_83 (e_iret dX10_fold_84)))))
    · exact ev_ret (e_bipush dX10_fold_33 rfl (k4 rfl) (e_iret dX10_fold_35))
  · exact ev_ret (e_iconst dX10_fold_12 (k4 rfl) (e_iret dX10_fold_13))
def f_X10_unfold (a : Nat) (R : xN) : Option (Int × xN) :=
  if (R (a + 1) 2) = 0 then
  some ((-2), R)
  else
  (f_X10_isHeld a R).bind (fun v2 =>
  if v2 = true then
  some ((-2), R)
  else
  (f_X10_act a R).bind (fun v4 =>
  xlet (xup v4 (a + 1) 86 (w4 ((v4 (a + 1) 86) + 1))) (fun R5 =>
  xlet (xup R5 (a + 1) 2 (w4 ((R5 (a + 1) 2) - 1))) (fun R6 =>
  some ((R6 (a + 1) 2), R6)))))
set_option maxRecDepth 20000 in
set_option maxHeartbeats 4000000 in
theorem c_X10_unfold {l : Launch} {g : xG} {d : Nat} {A : xA} {R : xN} {a : Nat} (h_a : sh 10 A a)  : Ev l g (d + 2) mX10_unfold 0 [xR a] [] A R (fun v : Int × xN => some (xI v.1)) (fun v => v.2) (f_X10_unfold a R) := by
  rw [f_X10_unfold]
  refine ev_st (pc' := 6) (L' := [xR a]) (st' := [xI (R (a + 1) 2)]) (fun _ _ _ k => e_aload_n dX10_unfold_0 rfl (i := 0) (x := a) rfl (e_getr dX10_unfold_1 flX10_7 (kd10_0 h_a) rfl (rf10_0_0 h_a) (e_iconst dX10_unfold_4 (k4 rfl) (e_iald dX10_unfold_5 (kd10_1 h_a) (by decide) (by decide) k)))) ?_
  refine ev_br2 (P := (R (a + 1) 2) = 0) (pct := 16) (pcf := 9) (st' := []) (fun _ _ _ kt kf => e_ifeq dX10_unfold_6 (tgt := 16) rfl kt kf) (fun h1 => ?_) (fun h1 => ?_)
  · exact ev_ret (e_bipush dX10_unfold_16 rfl (k4 rfl) (e_iret dX10_unfold_18))
  · refine ev_st (pc' := 10) (L' := [xR a]) (st' := [xR a]) (fun _ _ _ k => e_aload_n dX10_unfold_9 rfl (i := 0) (x := a) rfl k) ?_
    refine ev_callV (As := []) (st := []) (fun v2 => [xI (xz v2)]) dX10_unfold_10 mlX10_142 (kd10_0 h_a) rfl rfl rfl rfl rfl rfl (c_X10_isHeld (d := d + 1) h_a) (fun _ => xz01 _) (fun _ => rfl) (fun v2 => ?_)
    refine ev_br2 (P := v2 = true) (pct := 16) (pcf := 19) (st' := []) (fun _ _ _ kt kf => e_ifeqz dX10_unfold_13 (tgt := 19) rfl kt kf) (fun h3 => ?_) (fun h3 => ?_)
    · exact ev_ret (e_bipush dX10_unfold_16 rfl (k4 rfl) (e_iret dX10_unfold_18))
    · refine ev_st (pc' := 20) (L' := [xR a]) (st' := [xR a]) (fun _ _ _ k => e_aload_n dX10_unfold_19 rfl (i := 0) (x := a) rfl k) ?_
      refine ev_callV (As := []) (st := []) (fun v4 => []) dX10_unfold_20 mlX10_139 (kd10_0 h_a) rfl rfl rfl rfl rfl rfl (c_X10_act (d := d) h_a) (fun _ => trivial) (fun _ => rfl) (fun v4 => ?_)
      refine ev_st (pc' := 34) (L' := [xR a]) (st' := []) (fun _ _ _ k => e_aload_n dX10_unfold_23 rfl (i := 0) (x := a) rfl (e_getr dX10_unfold_24 flX10_7 (kd10_0 h_a) rfl (rf10_0_0 h_a) (e_bipush dX10_unfold_27 rfl (k4 rfl) (e_dup2 dX10_unfold_29 (e_iald dX10_unfold_30 (kd10_1 h_a) (by decide) (by decide) (e_iconst dX10_unfold_31 (k4 rfl) (e_iadd dX10_unfold_32 (e_iast dX10_unfold_33 (kd10_1 h_a) (by decide) (by decide) k)))))))) ?_
      refine ev_letR (fun R5 eR5 => ?_)
      refine ev_st (pc' := 44) (L' := [xR a]) (st' := []) (fun _ _ _ k => e_aload_n dX10_unfold_34 rfl (i := 0) (x := a) rfl (e_getr dX10_unfold_35 flX10_7 (kd10_0 h_a) rfl (rf10_0_0 h_a) (e_iconst dX10_unfold_38 (k4 rfl) (e_dup2 dX10_unfold_39 (e_iald dX10_unfold_40 (kd10_1 h_a) (by decide) (by decide) (e_iconst dX10_unfold_41 (k4 rfl) (e_isub dX10_unfold_42 (e_iast dX10_unfold_43 (kd10_1 h_a) (by decide) (by decide) k)))))))) ?_
      refine ev_letR (fun R6 eR6 => ?_)
      exact ev_ret (e_aload_n dX10_unfold_44 rfl (i := 0) (x := a) rfl (e_getr dX10_unfold_45 flX10_7 (kd10_0 h_a) rfl (rf10_0_0 h_a) (e_iconst dX10_unfold_48 (k4 rfl) (e_iald dX10_unfold_49 (kd10_1 h_a) (by decide) (by decide) (e_iret dX10_unfold_50)))))
def f_X10_setSpine (a : Nat) (i0 : Int) (R : xN) : Option (Int × xN) :=
  (f_X10_in i0 0 1 R).bind (fun v1 =>
  if v1 = true then
  if (R (a + 1) 9) = 0 then
  (f_X10_act a R).bind (fun v4 =>
  xlet (v4 (a + 1) 7) (fun x5 =>
  xlet (xup v4 (a + 1) 7 i0) (fun R6 =>
  some (x5, R6))))
  else
  some ((-2), R)
  else
  some ((-1), R))
set_option maxRecDepth 20000 in
set_option maxHeartbeats 4000000 in
theorem c_X10_setSpine {l : Launch} {g : xG} {d : Nat} {A : xA} {R : xN} {a : Nat} (h_a : sh 10 A a) (i0 : Int) : Ev l g (d + 2) mX10_setSpine 0 [xR a, xI i0, xU] [] A R (fun v : Int × xN => some (xI v.1)) (fun v => v.2) (f_X10_setSpine a i0 R) := by
  rw [f_X10_setSpine]
  refine ev_st (pc' := 4) (L' := [xR a, xI i0, xU]) (st' := [xL 1, xL 0, xL i0]) (fun _ _ _ k => e_iload_n dX10_setSpine_0 rfl (i := 1) (x := i0) rfl (e_i2l dX10_setSpine_1 (e_lconst dX10_setSpine_2 (i := 0) rfl (k8 rfl) (e_lconst dX10_setSpine_3 (i := 1) rfl (k8 rfl) k)))) ?_
  refine ev_callS (As := [xL i0, xL 0, xL 1]) (st := []) (fun v1 => [xI (xz v1)]) dX10_setSpine_4 mlX10_101 rfl rfl rfl rfl rfl rfl (c_X10_in (d := d + 1) i0 0 1) (fun _ => xz01 _) (fun _ => rfl) (fun v1 => ?_)
  refine ev_br2 (P := v1 = true) (pct := 12) (pcf := 10) (st' := []) (fun _ _ _ kt kf => e_ifnez dX10_setSpine_7 (tgt := 12) rfl kt kf) (fun h2 => ?_) (fun h2 => ?_)
  · refine ev_st (pc' := 19) (L' := [xR a, xI i0, xU]) (st' := [xI (R (a + 1) 9)]) (fun _ _ _ k => e_aload_n dX10_setSpine_12 rfl (i := 0) (x := a) rfl (e_getr dX10_setSpine_13 flX10_7 (kd10_0 h_a) rfl (rf10_0_0 h_a) (e_bipush dX10_setSpine_16 rfl (k4 rfl) (e_iald dX10_setSpine_18 (kd10_1 h_a) (by decide) (by decide) k)))) ?_
    refine ev_br2 (P := (R (a + 1) 9) = 0) (pct := 25) (pcf := 22) (st' := []) (fun _ _ _ kt kf => e_ifeq dX10_setSpine_19 (tgt := 25) rfl kt kf) (fun h3 => ?_) (fun h3 => ?_)
    · refine ev_st (pc' := 26) (L' := [xR a, xI i0, xU]) (st' := [xR a]) (fun _ _ _ k => e_aload_n dX10_setSpine_25 rfl (i := 0) (x := a) rfl k) ?_
      refine ev_callV (As := []) (st := []) (fun v4 => []) dX10_setSpine_26 mlX10_139 (kd10_0 h_a) rfl rfl rfl rfl rfl rfl (c_X10_act (d := d) h_a) (fun _ => trivial) (fun _ => rfl) (fun v4 => ?_)
      refine ev_st (pc' := 36) (L' := [xR a, xI i0, xU]) (st' := [xI (v4 (a + 1) 7)]) (fun _ _ _ k => e_aload_n dX10_setSpine_29 rfl (i := 0) (x := a) rfl (e_getr dX10_setSpine_30 flX10_7 (kd10_0 h_a) rfl (rf10_0_0 h_a) (e_bipush dX10_setSpine_33 rfl (k4 rfl) (e_iald dX10_setSpine_35 (kd10_1 h_a) (by decide) (by decide) k)))) ?_
      refine ev_leti (fun x5 ex5 => ?_)
      refine ev_st (pc' := 37) (L' := [xR a, xI i0, xI x5]) (st' := []) (fun _ _ _ k => e_istore_n dX10_setSpine_36 rfl (i := 2) rfl (L' := [xR a, xI i0, xI x5]) rfl k) ?_
      refine ev_st (pc' := 45) (L' := [xR a, xI i0, xI x5]) (st' := []) (fun _ _ _ k => e_aload_n dX10_setSpine_37 rfl (i := 0) (x := a) rfl (e_getr dX10_setSpine_38 flX10_7 (kd10_0 h_a) rfl (rf10_0_0 h_a) (e_bipush dX10_setSpine_41 rfl (k4 rfl) (e_iload_n dX10_setSpine_43 rfl (i := 1) (x := i0) rfl (e_iast dX10_setSpine_44 (kd10_1 h_a) (by decide) (by decide) k))))) ?_
      refine ev_letR (fun R6 eR6 => ?_)
      exact ev_ret (e_iload_n dX10_setSpine_45 rfl (i := 2) (x := x5) rfl (e_iret dX10_setSpine_46))
    · exact ev_ret (e_bipush dX10_setSpine_22 rfl (k4 rfl) (e_iret dX10_setSpine_24))
  · exact ev_ret (e_iconst dX10_setSpine_10 (k4 rfl) (e_iret dX10_setSpine_11))
def f_X10_isCell (a : Nat) (i0 : Int) (i1 : Int) (R : xN) : Option (Bool) :=
  (f_X10_in i0 0 (w4 ((R (a + 1) 0) - 1)) R).bind (fun v1 =>
  if v1 = true then
  (f_X10_in i1 0 (w4 ((R (a + 1) 1) - 1)) R).bind (fun v3 =>
  if v3 = true then
  some true
  else
  some false)
  else
  some false)
set_option maxRecDepth 20000 in
set_option maxHeartbeats 4000000 in
theorem c_X10_isCell {l : Launch} {g : xG} {d : Nat} {A : xA} {R : xN} {a : Nat} (h_a : sh 10 A a) (i0 : Int) (i1 : Int) : Ev l g (d + 1) mX10_isCell 0 [xR a, xI i0, xI i1] [] A R (fun v : Bool => some (xI (xz v))) (fun _ => R) (f_X10_isCell a i0 i1 R) := by
  rw [f_X10_isCell]
  refine ev_st (pc' := 12) (L' := [xR a, xI i0, xI i1]) (st' := [xL (w4 ((R (a + 1) 0) - 1)), xL 0, xL i0]) (fun _ _ _ k => e_iload_n dX10_isCell_0 rfl (i := 1) (x := i0) rfl (e_i2l dX10_isCell_1 (e_lconst dX10_isCell_2 (i := 0) rfl (k8 rfl) (e_aload_n dX10_isCell_3 rfl (i := 0) (x := a) rfl (e_getr dX10_isCell_4 flX10_7 (kd10_0 h_a) rfl (rf10_0_0 h_a) (e_iconst dX10_isCell_7 (k4 rfl) (e_iald dX10_isCell_8 (kd10_1 h_a) (by decide) (by decide) (e_iconst dX10_isCell_9 (k4 rfl) (e_isub dX10_isCell_10 (e_i2l dX10_isCell_11 k)))))))))) ?_
  refine ev_callS (As := [xL i0, xL 0, xL (w4 ((R (a + 1) 0) - 1))]) (st := []) (fun v1 => [xI (xz v1)]) dX10_isCell_12 mlX10_101 rfl rfl rfl rfl rfl rfl (c_X10_in (d := d) i0 0 (w4 ((R (a + 1) 0) - 1))) (fun _ => xz01 _) (fun _ => rfl) (fun v1 => ?_)
  refine ev_br2 (P := v1 = true) (pct := 18) (pcf := 40) (st' := []) (fun _ _ _ kt kf => e_ifeqz dX10_isCell_15 (tgt := 40) rfl kt kf) (fun h2 => ?_) (fun h2 => ?_)
  · refine ev_st (pc' := 30) (L' := [xR a, xI i0, xI i1]) (st' := [xL (w4 ((R (a + 1) 1) - 1)), xL 0, xL i1]) (fun _ _ _ k => e_iload_n dX10_isCell_18 rfl (i := 2) (x := i1) rfl (e_i2l dX10_isCell_19 (e_lconst dX10_isCell_20 (i := 0) rfl (k8 rfl) (e_aload_n dX10_isCell_21 rfl (i := 0) (x := a) rfl (e_getr dX10_isCell_22 flX10_7 (kd10_0 h_a) rfl (rf10_0_0 h_a) (e_iconst dX10_isCell_25 (k4 rfl) (e_iald dX10_isCell_26 (kd10_1 h_a) (by decide) (by decide) (e_iconst dX10_isCell_27 (k4 rfl) (e_isub dX10_isCell_28 (e_i2l dX10_isCell_29 k)))))))))) ?_
    refine ev_callS (As := [xL i1, xL 0, xL (w4 ((R (a + 1) 1) - 1))]) (st := []) (fun v3 => [xI (xz v3)]) dX10_isCell_30 mlX10_101 rfl rfl rfl rfl rfl rfl (c_X10_in (d := d) i1 0 (w4 ((R (a + 1) 1) - 1))) (fun _ => xz01 _) (fun _ => rfl) (fun v3 => ?_)
    refine ev_br2 (P := v3 = true) (pct := 36) (pcf := 40) (st' := []) (fun _ _ _ kt kf => e_ifeqz dX10_isCell_33 (tgt := 40) rfl kt kf) (fun h4 => ?_) (fun h4 => ?_)
    · exact ev_ret (e_iconst dX10_isCell_36 (k4 rfl) (e_goto dX10_isCell_37 (tgt := 41) rfl (e_iret dX10_isCell_41)))
    · exact ev_ret (e_iconst dX10_isCell_40 (k4 rfl) (e_iret dX10_isCell_41))
  · exact ev_ret (e_iconst dX10_isCell_40 (k4 rfl) (e_iret dX10_isCell_41))
def f_X10_printOn (a : Nat) (i0 : Int) (i1 : Int) (i2 : Int) (R : xN) : Option (Int × xN) :=
  xlet (if 0 ≤ i1 then i2 else 0) (fun t1 =>
  if 0 ≤ (w4 (90 + i0)) ∧ (w4 (90 + i0)) < 464 then
  if (R (a + 1) ((w4 (90 + i0))).toNat) = i1 then
  if 0 ≤ (w4 (122 + i0)) ∧ (w4 (122 + i0)) < 464 then
  if (R (a + 1) ((w4 (122 + i0))).toNat) = t1 then
  if 0 ≤ (w4 (90 + i0)) ∧ (w4 (90 + i0)) < 464 then
  xlet (xup R (a + 1) ((w4 (90 + i0))).toNat i1) (fun R7 =>
  if 0 ≤ (w4 (122 + i0)) ∧ (w4 (122 + i0)) < 464 then
  xlet (xup R7 (a + 1) ((w4 (122 + i0))).toNat t1) (fun R9 =>
  xlet (xup R9 (a + 1) 87 (w4 ((R9 (a + 1) 87) + 0))) (fun R10 =>
  some (0, R10)))
  else none)
  else none
  else
  if 0 ≤ (w4 (90 + i0)) ∧ (w4 (90 + i0)) < 464 then
  xlet (xup R (a + 1) ((w4 (90 + i0))).toNat i1) (fun R12 =>
  if 0 ≤ (w4 (122 + i0)) ∧ (w4 (122 + i0)) < 464 then
  xlet (xup R12 (a + 1) ((w4 (122 + i0))).toNat t1) (fun R14 =>
  xlet (xup R14 (a + 1) 87 (w4 ((R14 (a + 1) 87) + 1))) (fun R15 =>
  some (1, R15)))
  else none)
  else none
  else none
  else
  if 0 ≤ (w4 (90 + i0)) ∧ (w4 (90 + i0)) < 464 then
  xlet (xup R (a + 1) ((w4 (90 + i0))).toNat i1) (fun R17 =>
  if 0 ≤ (w4 (122 + i0)) ∧ (w4 (122 + i0)) < 464 then
  xlet (xup R17 (a + 1) ((w4 (122 + i0))).toNat t1) (fun R19 =>
  xlet (xup R19 (a + 1) 87 (w4 ((R19 (a + 1) 87) + 1))) (fun R20 =>
  some (1, R20)))
  else none)
  else none
  else none)
set_option maxRecDepth 20000 in
set_option maxHeartbeats 4000000 in
theorem c_X10_printOn {l : Launch} {g : xG} {d : Nat} {A : xA} {R : xN} {a : Nat} (h_a : sh 10 A a) (i0 : Int) (i1 : Int) (i2 : Int) : Ev l g (d) mX10_printOn 0 [xR a, xI i0, xI i1, xI i2, xU, xU] [] A R (fun v : Int × xN => some (xI v.1)) (fun v => v.2) (f_X10_printOn a i0 i1 i2 R) := by
  rw [f_X10_printOn]
  refine ev_st (pc' := 1) (L' := [xR a, xI i0, xI i1, xI i2, xU, xU]) (st' := [xI i1]) (fun _ _ _ k => e_iload_n dX10_printOn_0 rfl (i := 2) (x := i1) rfl k) ?_
  refine ev_tern (P := 0 ≤ i1) (a := i2) (b := 0) (pct := 8) (pcf := 4) (J := 9) (st' := []) (fun _ _ _ kt kf => e_ifge dX10_printOn_1 (tgt := 8) rfl kt kf) (fun _ _ _ k => e_iload_n dX10_printOn_8 rfl (i := 3) (x := i2) rfl k) (fun _ _ _ k => e_iconst dX10_printOn_4 (k4 rfl) (e_goto dX10_printOn_5 (tgt := 9) rfl k)) (fun t1 et1 => ?_)
  refine ev_st (pc' := 19) (L' := [xR a, xI i0, xI i1, xI i2, xI t1, xU]) (st' := [xI (w4 (90 + i0)), xR (a + 1)]) (fun _ _ _ k => e_istore dX10_printOn_9 (i := 4) rfl (L' := [xR a, xI i0, xI i1, xI i2, xI t1, xU]) rfl (e_aload_n dX10_printOn_11 rfl (i := 0) (x := a) rfl (e_getr dX10_printOn_12 flX10_7 (kd10_0 h_a) rfl (rf10_0_0 h_a) (e_bipush dX10_printOn_15 rfl (k4 rfl) (e_iload_n dX10_printOn_17 rfl (i := 1) (x := i0) rfl (e_iadd dX10_printOn_18 k)))))) ?_
  refine ev_chk (fun h2 => ?_)
  refine ev_st (pc' := 20) (L' := [xR a, xI i0, xI i1, xI i2, xI t1, xU]) (st' := [xI (R (a + 1) ((w4 (90 + i0))).toNat)]) (fun _ _ _ k => e_iald dX10_printOn_19 (kd10_1 h_a) h2.1 h2.2 k) ?_
  refine ev_st (pc' := 21) (L' := [xR a, xI i0, xI i1, xI i2, xI t1, xU]) (st' := [xI i1, xI (R (a + 1) ((w4 (90 + i0))).toNat)]) (fun _ _ _ k => e_iload_n dX10_printOn_20 rfl (i := 2) (x := i1) rfl k) ?_
  refine ev_br2 (P := (R (a + 1) ((w4 (90 + i0))).toNat) = i1) (pct := 24) (pcf := 38) (st' := []) (fun _ _ _ kt kf => e_cne dX10_printOn_21 (tgt := 38) rfl kt kf) (fun h3 => ?_) (fun h3 => ?_)
  · refine ev_st (pc' := 32) (L' := [xR a, xI i0, xI i1, xI i2, xI t1, xU]) (st' := [xI (w4 (122 + i0)), xR (a + 1)]) (fun _ _ _ k => e_aload_n dX10_printOn_24 rfl (i := 0) (x := a) rfl (e_getr dX10_printOn_25 flX10_7 (kd10_0 h_a) rfl (rf10_0_0 h_a) (e_bipush dX10_printOn_28 rfl (k4 rfl) (e_iload_n dX10_printOn_30 rfl (i := 1) (x := i0) rfl (e_iadd dX10_printOn_31 k))))) ?_
    refine ev_chk (fun h4 => ?_)
    refine ev_st (pc' := 33) (L' := [xR a, xI i0, xI i1, xI i2, xI t1, xU]) (st' := [xI (R (a + 1) ((w4 (122 + i0))).toNat)]) (fun _ _ _ k => e_iald dX10_printOn_32 (kd10_1 h_a) h4.1 h4.2 k) ?_
    refine ev_st (pc' := 35) (L' := [xR a, xI i0, xI i1, xI i2, xI t1, xU]) (st' := [xI t1, xI (R (a + 1) ((w4 (122 + i0))).toNat)]) (fun _ _ _ k => e_iload dX10_printOn_33 (i := 4) (x := t1) rfl k) ?_
    refine ev_br2 (P := (R (a + 1) ((w4 (122 + i0))).toNat) = t1) (pct := 42) (pcf := 38) (st' := []) (fun _ _ _ kt kf => e_ceq dX10_printOn_35 (tgt := 42) rfl kt kf) (fun h5 => ?_) (fun h5 => ?_)
    · refine ev_st (pc' := 54) (L' := [xR a, xI i0, xI i1, xI i2, xI t1, xI 0]) (st' := [xI i1, xI (w4 (90 + i0)), xR (a + 1)]) (fun _ _ _ k => e_iconst dX10_printOn_42 (k4 rfl) (e_istore dX10_printOn_43 (i := 5) rfl (L' := [xR a, xI i0, xI i1, xI i2, xI t1, xI 0]) rfl (e_aload_n dX10_printOn_45 rfl (i := 0) (x := a) rfl (e_getr dX10_printOn_46 flX10_7 (kd10_0 h_a) rfl (rf10_0_0 h_a) (e_bipush dX10_printOn_49 rfl (k4 rfl) (e_iload_n dX10_printOn_51 rfl (i := 1) (x := i0) rfl (e_iadd dX10_printOn_52 (e_iload_n dX10_printOn_53 rfl (i := 2) (x := i1) rfl k)))))))) ?_
      refine ev_chk (fun h6 => ?_)
      refine ev_st (pc' := 55) (L' := [xR a, xI i0, xI i1, xI i2, xI t1, xI 0]) (st' := []) (fun _ _ _ k => e_iast dX10_printOn_54 (kd10_1 h_a) h6.1 h6.2 k) ?_
      refine ev_letR (fun R7 eR7 => ?_)
      refine ev_st (pc' := 65) (L' := [xR a, xI i0, xI i1, xI i2, xI t1, xI 0]) (st' := [xI t1, xI (w4 (122 + i0)), xR (a + 1)]) (fun _ _ _ k => e_aload_n dX10_printOn_55 rfl (i := 0) (x := a) rfl (e_getr dX10_printOn_56 flX10_7 (kd10_0 h_a) rfl (rf10_0_0 h_a) (e_bipush dX10_printOn_59 rfl (k4 rfl) (e_iload_n dX10_printOn_61 rfl (i := 1) (x := i0) rfl (e_iadd dX10_printOn_62 (e_iload dX10_printOn_63 (i := 4) (x := t1) rfl k)))))) ?_
      refine ev_chk (fun h8 => ?_)
      refine ev_st (pc' := 66) (L' := [xR a, xI i0, xI i1, xI i2, xI t1, xI 0]) (st' := []) (fun _ _ _ k => e_iast dX10_printOn_65 (kd10_1 h_a) h8.1 h8.2 k) ?_
      refine ev_letR (fun R9 eR9 => ?_)
      refine ev_st (pc' := 78) (L' := [xR a, xI i0, xI i1, xI i2, xI t1, xI 0]) (st' := []) (fun _ _ _ k => e_aload_n dX10_printOn_66 rfl (i := 0) (x := a) rfl (e_getr dX10_printOn_67 flX10_7 (kd10_0 h_a) rfl (rf10_0_0 h_a) (e_bipush dX10_printOn_70 rfl (k4 rfl) (e_dup2 dX10_printOn_72 (e_iald dX10_printOn_73 (kd10_1 h_a) (by decide) (by decide) (e_iload dX10_printOn_74 (i := 5) (x := 0) rfl (e_iadd dX10_printOn_76 (e_iast dX10_printOn_77 (kd10_1 h_a) (by decide) (by decide) k)))))))) ?_
      refine ev_letR (fun R10 eR10 => ?_)
      exact ev_ret (e_iload dX10_printOn_78 (i := 5) (x := 0) rfl (e_iret dX10_printOn_80))
    · refine ev_st (pc' := 54) (L' := [xR a, xI i0, xI i1, xI i2, xI t1, xI 1]) (st' := [xI i1, xI (w4 (90 + i0)), xR (a + 1)]) (fun _ _ _ k => e_iconst dX10_printOn_38 (k4 rfl) (e_goto dX10_printOn_39 (tgt := 43) rfl (e_istore dX10_printOn_43 (i := 5) rfl (L' := [xR a, xI i0, xI i1, xI i2, xI t1, xI 1]) rfl (e_aload_n dX10_printOn_45 rfl (i := 0) (x := a) rfl (e_getr dX10_printOn_46 flX10_7 (kd10_0 h_a) rfl (rf10_0_0 h_a) (e_bipush dX10_printOn_49 rfl (k4 rfl) (e_iload_n dX10_printOn_51 rfl (i := 1) (x := i0) rfl (e_iadd dX10_printOn_52 (e_iload_n dX10_printOn_53 rfl (i := 2) (x := i1) rfl k))))))))) ?_
      refine ev_chk (fun h11 => ?_)
      refine ev_st (pc' := 55) (L' := [xR a, xI i0, xI i1, xI i2, xI t1, xI 1]) (st' := []) (fun _ _ _ k => e_iast dX10_printOn_54 (kd10_1 h_a) h11.1 h11.2 k) ?_
      refine ev_letR (fun R12 eR12 => ?_)
      refine ev_st (pc' := 65) (L' := [xR a, xI i0, xI i1, xI i2, xI t1, xI 1]) (st' := [xI t1, xI (w4 (122 + i0)), xR (a + 1)]) (fun _ _ _ k => e_aload_n dX10_printOn_55 rfl (i := 0) (x := a) rfl (e_getr dX10_printOn_56 flX10_7 (kd10_0 h_a) rfl (rf10_0_0 h_a) (e_bipush dX10_printOn_59 rfl (k4 rfl) (e_iload_n dX10_printOn_61 rfl (i := 1) (x := i0) rfl (e_iadd dX10_printOn_62 (e_iload dX10_printOn_63 (i := 4) (x := t1) rfl k)))))) ?_
      refine ev_chk (fun h13 => ?_)
      refine ev_st (pc' := 66) (L' := [xR a, xI i0, xI i1, xI i2, xI t1, xI 1]) (st' := []) (fun _ _ _ k => e_iast dX10_printOn_65 (kd10_1 h_a) h13.1 h13.2 k) ?_
      refine ev_letR (fun R14 eR14 => ?_)
      refine ev_st (pc' := 78) (L' := [xR a, xI i0, xI i1, xI i2, xI t1, xI 1]) (st' := []) (fun _ _ _ k => e_aload_n dX10_printOn_66 rfl (i := 0) (x := a) rfl (e_getr dX10_printOn_67 flX10_7 (kd10_0 h_a) rfl (rf10_0_0 h_a) (e_bipush dX10_printOn_70 rfl (k4 rfl) (e_dup2 dX10_printOn_72 (e_iald dX10_printOn_73 (kd10_1 h_a) (by decide) (by decide) (e_iload dX10_printOn_74 (i := 5) (x := 1) rfl (e_iadd dX10_printOn_76 (e_iast dX10_printOn_77 (kd10_1 h_a) (by decide) (by decide) k)))))))) ?_
      refine ev_letR (fun R15 eR15 => ?_)
      exact ev_ret (e_iload dX10_printOn_78 (i := 5) (x := 1) rfl (e_iret dX10_printOn_80))
  · refine ev_st (pc' := 54) (L' := [xR a, xI i0, xI i1, xI i2, xI t1, xI 1]) (st' := [xI i1, xI (w4 (90 + i0)), xR (a + 1)]) (fun _ _ _ k => e_iconst dX10_printOn_38 (k4 rfl) (e_goto dX10_printOn_39 (tgt := 43) rfl (e_istore dX10_printOn_43 (i := 5) rfl (L' := [xR a, xI i0, xI i1, xI i2, xI t1, xI 1]) rfl (e_aload_n dX10_printOn_45 rfl (i := 0) (x := a) rfl (e_getr dX10_printOn_46 flX10_7 (kd10_0 h_a) rfl (rf10_0_0 h_a) (e_bipush dX10_printOn_49 rfl (k4 rfl) (e_iload_n dX10_printOn_51 rfl (i := 1) (x := i0) rfl (e_iadd dX10_printOn_52 (e_iload_n dX10_printOn_53 rfl (i := 2) (x := i1) rfl k))))))))) ?_
    refine ev_chk (fun h16 => ?_)
    refine ev_st (pc' := 55) (L' := [xR a, xI i0, xI i1, xI i2, xI t1, xI 1]) (st' := []) (fun _ _ _ k => e_iast dX10_printOn_54 (kd10_1 h_a) h16.1 h16.2 k) ?_
    refine ev_letR (fun R17 eR17 => ?_)
    refine ev_st (pc' := 65) (L' := [xR a, xI i0, xI i1, xI i2, xI t1, xI 1]) (st' := [xI t1, xI (w4 (122 + i0)), xR (a + 1)]) (fun _ _ _ k => e_aload_n dX10_printOn_55 rfl (i := 0) (x := a) rfl (e_getr dX10_printOn_56 flX10_7 (kd10_0 h_a) rfl (rf10_0_0 h_a) (e_bipush dX10_printOn_59 rfl (k4 rfl) (e_iload_n dX10_printOn_61 rfl (i := 1) (x := i0) rfl (e_iadd dX10_printOn_62 (e_iload dX10_printOn_63 (i := 4) (x := t1) rfl k)))))) ?_
    refine ev_chk (fun h18 => ?_)
    refine ev_st (pc' := 66) (L' := [xR a, xI i0, xI i1, xI i2, xI t1, xI 1]) (st' := []) (fun _ _ _ k => e_iast dX10_printOn_65 (kd10_1 h_a) h18.1 h18.2 k) ?_
    refine ev_letR (fun R19 eR19 => ?_)
    refine ev_st (pc' := 78) (L' := [xR a, xI i0, xI i1, xI i2, xI t1, xI 1]) (st' := []) (fun _ _ _ k => e_aload_n dX10_printOn_66 rfl (i := 0) (x := a) rfl (e_getr dX10_printOn_67 flX10_7 (kd10_0 h_a) rfl (rf10_0_0 h_a) (e_bipush dX10_printOn_70 rfl (k4 rfl) (e_dup2 dX10_printOn_72 (e_iald dX10_printOn_73 (kd10_1 h_a) (by decide) (by decide) (e_iload dX10_printOn_74 (i := 5) (x := 1) rfl (e_iadd dX10_printOn_76 (e_iast dX10_printOn_77 (kd10_1 h_a) (by decide) (by decide) k)))))))) ?_
    refine ev_letR (fun R20 eR20 => ?_)
    exact ev_ret (e_iload dX10_printOn_78 (i := 5) (x := 1) rfl (e_iret dX10_printOn_80))
def f_X10_print (a : Nat) (i0 : Int) (i1 : Int) (i2 : Int) (i3 : Int) (i4 : Int) (R : xN) : Option (Int × xN) :=
  (f_X10_isCell a i0 i1 R).bind (fun v1 =>
  if v1 = true then
  (f_X10_in i2 0 1 R).bind (fun v3 =>
  if v3 = true then
  (f_X10_in i3 (-1) 31 R).bind (fun v5 =>
  if v5 = true then
  (f_X10_in i4 0 1 R).bind (fun v7 =>
  if v7 = true then
  if 0 < (R (a + 1) 2) then
  some ((-2), R)
  else
  (f_X10_isHeld a R).bind (fun v10 =>
  if v10 = true then
  some ((-2), R)
  else
  (f_X10_act a R).bind (fun v12 =>
  xlet (w4 ((w4 (2 * (w4 ((w4 ((v12 (a + 1) 1) * i0)) + i1)))) + i2)) (fun x13 =>
  if 0 ≤ (w4 (90 + x13)) ∧ (w4 (90 + x13)) < 464 then
  xlet (v12 (a + 1) ((w4 (90 + x13))).toNat) (fun x15 =>
  (f_X10_printOn a x13 i3 i4 v12).bind (fun v16 =>
  xlet (if 0 ≤ x15 then x15 else (-9)) (fun t17 =>
  some (t17, v16.2))))
  else none)))
  else
  some ((-1), R))
  else
  some ((-1), R))
  else
  some ((-1), R))
  else
  some ((-1), R))
set_option maxRecDepth 20000 in
set_option maxHeartbeats 4000000 in
theorem c_X10_print {l : Launch} {g : xG} {d : Nat} {A : xA} {R : xN} {a : Nat} (h_a : sh 10 A a) (i0 : Int) (i1 : Int) (i2 : Int) (i3 : Int) (i4 : Int) : Ev l g (d + 2) mX10_print 0 [xR a, xI i0, xI i1, xI i2, xI i3, xI i4, xU, xU] [] A R (fun v : Int × xN => some (xI v.1)) (fun v => v.2) (f_X10_print a i0 i1 i2 i3 i4 R) := by
  rw [f_X10_print]
  refine ev_st (pc' := 3) (L' := [xR a, xI i0, xI i1, xI i2, xI i3, xI i4, xU, xU]) (st' := [xI i1, xI i0, xR a]) (fun _ _ _ k => e_aload_n dX10_print_0 rfl (i := 0) (x := a) rfl (e_iload_n dX10_print_1 rfl (i := 1) (x := i0) rfl (e_iload_n dX10_print_2 rfl (i := 2) (x := i1) rfl k))) ?_
  refine ev_callV (As := [xI i0, xI i1]) (st := []) (fun v1 => [xI (xz v1)]) dX10_print_3 mlX10_146 (kd10_0 h_a) rfl rfl rfl rfl rfl rfl (c_X10_isCell (d := d) h_a i0 i1) (fun _ => xz01 _) (fun _ => rfl) (fun v1 => ?_)
  refine ev_br2 (P := v1 = true) (pct := 9) (pcf := 45) (st' := []) (fun _ _ _ kt kf => e_ifeqz dX10_print_6 (tgt := 45) rfl kt kf) (fun h2 => ?_) (fun h2 => ?_)
  · refine ev_st (pc' := 13) (L' := [xR a, xI i0, xI i1, xI i2, xI i3, xI i4, xU, xU]) (st' := [xL 1, xL 0, xL i2]) (fun _ _ _ k => e_iload_n dX10_print_9 rfl (i := 3) (x := i2) rfl (e_i2l dX10_print_10 (e_lconst dX10_print_11 (i := 0) rfl (k8 rfl) (e_lconst dX10_print_12 (i := 1) rfl (k8 rfl) k)))) ?_
    refine ev_callS (As := [xL i2, xL 0, xL 1]) (st := []) (fun v3 => [xI (xz v3)]) dX10_print_13 mlX10_101 rfl rfl rfl rfl rfl rfl (c_X10_in (d := d + 1) i2 0 1) (fun _ => xz01 _) (fun _ => rfl) (fun v3 => ?_)
    refine ev_br2 (P := v3 = true) (pct := 19) (pcf := 45) (st' := []) (fun _ _ _ kt kf => e_ifeqz dX10_print_16 (tgt := 45) rfl kt kf) (fun h4 => ?_) (fun h4 => ?_)
    · refine ev_st (pc' := 28) (L' := [xR a, xI i0, xI i1, xI i2, xI i3, xI i4, xU, xU]) (st' := [xL 31, xL (-1), xL i3]) (fun _ _ _ k => e_iload dX10_print_19 (i := 4) (x := i3) rfl (e_i2l dX10_print_21 (e_ldc2 dX10_print_22 ckX10_149 (k8 rfl) (e_ldc2 dX10_print_25 ckX10_151 (k8 rfl) k)))) ?_
      refine ev_callS (As := [xL i3, xL (-1), xL 31]) (st := []) (fun v5 => [xI (xz v5)]) dX10_print_28 mlX10_101 rfl rfl rfl rfl rfl rfl (c_X10_in (d := d + 1) i3 (-1) 31) (fun _ => xz01 _) (fun _ => rfl) (fun v5 => ?_)
      refine ev_br2 (P := v5 = true) (pct := 34) (pcf := 45) (st' := []) (fun _ _ _ kt kf => e_ifeqz dX10_print_31 (tgt := 45) rfl kt kf) (fun h6 => ?_) (fun h6 => ?_)
      · refine ev_st (pc' := 39) (L' := [xR a, xI i0, xI i1, xI i2, xI i3, xI i4, xU, xU]) (st' := [xL 1, xL 0, xL i4]) (fun _ _ _ k => e_iload dX10_print_34 (i := 5) (x := i4) rfl (e_i2l dX10_print_36 (e_lconst dX10_print_37 (i := 0) rfl (k8 rfl) (e_lconst dX10_print_38 (i := 1) rfl (k8 rfl) k)))) ?_
        refine ev_callS (As := [xL i4, xL 0, xL 1]) (st := []) (fun v7 => [xI (xz v7)]) dX10_print_39 mlX10_101 rfl rfl rfl rfl rfl rfl (c_X10_in (d := d + 1) i4 0 1) (fun _ => xz01 _) (fun _ => rfl) (fun v7 => ?_)
        refine ev_br2 (P := v7 = true) (pct := 47) (pcf := 45) (st' := []) (fun _ _ _ kt kf => e_ifnez dX10_print_42 (tgt := 47) rfl kt kf) (fun h8 => ?_) (fun h8 => ?_)
        · refine ev_st (pc' := 53) (L' := [xR a, xI i0, xI i1, xI i2, xI i3, xI i4, xU, xU]) (st' := [xI (R (a + 1) 2)]) (fun _ _ _ k => e_aload_n dX10_print_47 rfl (i := 0) (x := a) rfl (e_getr dX10_print_48 flX10_7 (kd10_0 h_a) rfl (rf10_0_0 h_a) (e_iconst dX10_print_51 (k4 rfl) (e_iald dX10_print_52 (kd10_1 h_a) (by decide) (by decide) k)))) ?_
          refine ev_br2 (P := 0 < (R (a + 1) 2)) (pct := 63) (pcf := 56) (st' := []) (fun _ _ _ kt kf => e_ifgt dX10_print_53 (tgt := 63) rfl kt kf) (fun h9 => ?_) (fun h9 => ?_)
          · exact ev_ret (e_bipush dX10_print_63 rfl (k4 rfl) (e_iret dX10_print_65))
          · refine ev_st (pc' := 57) (L' := [xR a, xI i0, xI i1, xI i2, xI i3, xI i4, xU, xU]) (st' := [xR a]) (fun _ _ _ k => e_aload_n dX10_print_56 rfl (i := 0) (x := a) rfl k) ?_
            refine ev_callV (As := []) (st := []) (fun v10 => [xI (xz v10)]) dX10_print_57 mlX10_142 (kd10_0 h_a) rfl rfl rfl rfl rfl rfl (c_X10_isHeld (d := d + 1) h_a) (fun _ => xz01 _) (fun _ => rfl) (fun v10 => ?_)
            refine ev_br2 (P := v10 = true) (pct := 63) (pcf := 66) (st' := []) (fun _ _ _ kt kf => e_ifeqz dX10_print_60 (tgt := 66) rfl kt kf) (fun h11 => ?_) (fun h11 => ?_)
            · exact ev_ret (e_bipush dX10_print_63 rfl (k4 rfl) (e_iret dX10_print_65))
            · refine ev_st (pc' := 67) (L' := [xR a, xI i0, xI i1, xI i2, xI i3, xI i4, xU, xU]) (st' := [xR a]) (fun _ _ _ k => e_aload_n dX10_print_66 rfl (i := 0) (x := a) rfl k) ?_
              refine ev_callV (As := []) (st := []) (fun v12 => []) dX10_print_67 mlX10_139 (kd10_0 h_a) rfl rfl rfl rfl rfl rfl (c_X10_act (d := d) h_a) (fun _ => trivial) (fun _ => rfl) (fun v12 => ?_)
              refine ev_st (pc' := 84) (L' := [xR a, xI i0, xI i1, xI i2, xI i3, xI i4, xU, xU]) (st' := [xI (w4 ((w4 (2 * (w4 ((w4 ((v12 (a + 1) 1) * i0)) + i1)))) + i2))]) (fun _ _ _ k => e_iconst dX10_print_70 (k4 rfl) (e_aload_n dX10_print_71 rfl (i := 0) (x := a) rfl (e_getr dX10_print_72 flX10_7 (kd10_0 h_a) rfl (rf10_0_0 h_a) (e_iconst dX10_print_75 (k4 rfl) (e_iald dX10_print_76 (kd10_1 h_a) (by decide) (by decide) (e_iload_n dX10_print_77 rfl (i := 1) (x := i0) rfl (e_imul dX10_print_78 (e_iload_n dX10_print_79 rfl (i := 2) (x := i1) rfl (e_iadd dX10_print_80 (e_imul dX10_print_81 (e_iload_n dX10_print_82 rfl (i := 3) (x := i2) rfl (e_iadd dX10_print_83 k)))))))))))) ?_
              refine ev_leti (fun x13 ex13 => ?_)
              refine ev_st (pc' := 86) (L' := [xR a, xI i0, xI i1, xI i2, xI i3, xI i4, xI x13, xU]) (st' := []) (fun _ _ _ k => e_istore dX10_print_84 (i := 6) rfl (L' := [xR a, xI i0, xI i1, xI i2, xI i3, xI i4, xI x13, xU]) rfl k) ?_
              refine ev_st (pc' := 95) (L' := [xR a, xI i0, xI i1, xI i2, xI i3, xI i4, xI x13, xU]) (st' := [xI (w4 (90 + x13)), xR (a + 1)]) (fun _ _ _ k => e_aload_n dX10_print_86 rfl (i := 0) (x := a) rfl (e_getr dX10_print_87 flX10_7 (kd10_0 h_a) rfl (rf10_0_0 h_a) (e_bipush dX10_print_90 rfl (k4 rfl) (e_iload dX10_print_92 (i := 6) (x := x13) rfl (e_iadd dX10_print_94 k))))) ?_
              refine ev_chk (fun h14 => ?_)
              refine ev_st (pc' := 96) (L' := [xR a, xI i0, xI i1, xI i2, xI i3, xI i4, xI x13, xU]) (st' := [xI (v12 (a + 1) ((w4 (90 + x13))).toNat)]) (fun _ _ _ k => e_iald dX10_print_95 (kd10_1 h_a) h14.1 h14.2 k) ?_
              refine ev_leti (fun x15 ex15 => ?_)
              refine ev_st (pc' := 98) (L' := [xR a, xI i0, xI i1, xI i2, xI i3, xI i4, xI x13, xI x15]) (st' := []) (fun _ _ _ k => e_istore dX10_print_96 (i := 7) rfl (L' := [xR a, xI i0, xI i1, xI i2, xI i3, xI i4, xI x13, xI x15]) rfl k) ?_
              refine ev_st (pc' := 105) (L' := [xR a, xI i0, xI i1, xI i2, xI i3, xI i4, xI x13, xI x15]) (st' := [xI i4, xI i3, xI x13, xR a]) (fun _ _ _ k => e_aload_n dX10_print_98 rfl (i := 0) (x := a) rfl (e_iload dX10_print_99 (i := 6) (x := x13) rfl (e_iload dX10_print_101 (i := 4) (x := i3) rfl (e_iload dX10_print_103 (i := 5) (x := i4) rfl k)))) ?_
              refine ev_callV (As := [xI x13, xI i3, xI i4]) (st := []) (fun v16 => [xI v16.1]) dX10_print_105 mlX10_153 (kd10_0 h_a) rfl rfl rfl rfl rfl rfl (c_X10_printOn (d := d + 1) h_a x13 i3 i4) (fun _ => trivial) (fun _ => rfl) (fun v16 => ?_)
              refine ev_st (pc' := 111) (L' := [xR a, xI i0, xI i1, xI i2, xI i3, xI i4, xI x13, xI x15]) (st' := [xI x15]) (fun _ _ _ k => e_pop dX10_print_108 (e_iload dX10_print_109 (i := 7) (x := x15) rfl k)) ?_
              refine ev_tern (P := 0 ≤ x15) (a := x15) (b := (-9)) (pct := 119) (pcf := 114) (J := 121) (st' := []) (fun _ _ _ kt kf => e_ifge dX10_print_111 (tgt := 119) rfl kt kf) (fun _ _ _ k => e_iload dX10_print_119 (i := 7) (x := x15) rfl k) (fun _ _ _ k => e_bipush dX10_print_114 rfl (k4 rfl) (e_goto dX10_print_116 (tgt := 121) rfl k)) (fun t17 et17 => ?_)
              exact ev_ret (e_iret dX10_print_121)
        · exact ev_ret (e_iconst dX10_print_45 (k4 rfl) (e_iret dX10_print_46))
      · exact ev_ret (e_iconst dX10_print_45 (k4 rfl) (e_iret dX10_print_46))
    · exact ev_ret (e_iconst dX10_print_45 (k4 rfl) (e_iret dX10_print_46))
  · exact ev_ret (e_iconst dX10_print_45 (k4 rfl) (e_iret dX10_print_46))
def lp_X10_printAll_37 (a : Nat) : Nat → Int → Int → xN → (Int → Int → xN → Option (Int × xN)) → Option (Int × xN)
  | 0, _, _, _, _ => none
  | n + 1, y2, y3, R, X =>
    if (w4 (2 * (R a 9))) ≤ y3 then
    X y2 y3 R
    else
    (f_X10_sideOf a y3 R).bind (fun v8 =>
    (f_X10_turnOf a y3 R).bind (fun v9 =>
    (f_X10_printOn a v8 y3 v9 R).bind (fun v10 =>
    xlet (w4 (y2 + v10.1)) (fun x11 =>
    xlet (w4 (y3 + 1)) (fun x12 =>
    lp_X10_printAll_37 a n x11 x12 v10.2 X)))))
def f_X10_printAll (a : Nat) (i0 : Int) (R : xN) : Option (Int × xN) :=
  (f_X10_layBy a i0 R).bind (fun v1 =>
  if v1.1 = true then
  if 0 < (v1.2 (a + 1) 2) then
  some ((-2), v1.2)
  else
  (f_X10_isHeld a v1.2).bind (fun v4 =>
  if v4 = true then
  some ((-2), v1.2)
  else
  (f_X10_act a v1.2).bind (fun v6 =>
  lp_X10_printAll_37 a 6000 0 0 v6 (fun z13 z14 R15 =>
  some (z13, R15))))
  else
  some ((-1), v1.2))
set_option maxRecDepth 20000 in
set_option maxHeartbeats 4000000 in
theorem lc_X10_printAll_37 {l : Launch} {g : xG} {d : Nat} {A : xA} {a : Nat} (h_a : sh 10 A a)  {X : Int → Int → xN → Option (Int × xN)} (hX : ∀ (y2 : Int) (y3 : Int) (R : xN), Ev l g (d + 3) mX10_printAll 71 [xU, xU, xI y2, xU] [] A R (fun v : Int × xN => some (xI v.1)) (fun v => v.2) (X y2 y3 R)) (n : Nat) (y2 : Int) (y3 : Int) (R : xN) : Ev l g (d + 3) mX10_printAll 37 [xR a, xU, xI y2, xI y3] [] A R (fun v : Int × xN => some (xI v.1)) (fun v => v.2) (lp_X10_printAll_37 a n y2 y3 R X) := by
  induction n generalizing y2 y3 R with
  | zero => exact ev_none
  | succ n ih =>
    rw [lp_X10_printAll_37]
    refine ev_st (pc' := 44) (L' := [xR a, xU, xI y2, xI y3]) (st' := [xI (w4 (2 * (R a 9))), xI y3]) (fun _ _ _ k => e_iload_n dX10_printAll_37 rfl (i := 3) (x := y3) rfl (e_iconst dX10_printAll_38 (k4 rfl) (e_aload_n dX10_printAll_39 rfl (i := 0) (x := a) rfl (e_geti dX10_printAll_40 flX10_78 (kd10_0 h_a) (Or.inl rfl) (e_imul dX10_printAll_43 k))))) ?_
    refine ev_br2 (P := (w4 (2 * (R a 9))) ≤ y3) (pct := 71) (pcf := 47) (st' := []) (fun _ _ _ kt kf => e_cge dX10_printAll_44 (tgt := 71) rfl kt kf) (fun h7 => ?_) (fun h7 => ?_)
    · refine ev_st (pc' := 71) (L' := [xU, xU, xI y2, xU]) (st' := []) (fun _ _ _ k => e_fg [0, 3] k) ?_
      exact hX y2 y3 R
    · refine ev_st (pc' := 51) (L' := [xR a, xU, xI y2, xI y3]) (st' := [xI y3, xR a, xR a, xI y2]) (fun _ _ _ k => e_iload_n dX10_printAll_47 rfl (i := 2) (x := y2) rfl (e_aload_n dX10_printAll_48 rfl (i := 0) (x := a) rfl (e_aload_n dX10_printAll_49 rfl (i := 0) (x := a) rfl (e_iload_n dX10_printAll_50 rfl (i := 3) (x := y3) rfl k)))) ?_
      refine ev_callV (As := [xI y3]) (st := [xR a, xI y2]) (fun v8 => [xI v8, xR a, xI y2]) dX10_printAll_51 mlX10_113 (kd10_0 h_a) rfl rfl rfl rfl rfl rfl (c_X10_sideOf (d := d + 2) h_a y3) (fun _ => trivial) (fun _ => rfl) (fun v8 => ?_)
      refine ev_st (pc' := 57) (L' := [xR a, xU, xI y2, xI y3]) (st' := [xI y3, xR a, xI y3, xI v8, xR a, xI y2]) (fun _ _ _ k => e_iload_n dX10_printAll_54 rfl (i := 3) (x := y3) rfl (e_aload_n dX10_printAll_55 rfl (i := 0) (x := a) rfl (e_iload_n dX10_printAll_56 rfl (i := 3) (x := y3) rfl k))) ?_
      refine ev_callV (As := [xI y3]) (st := [xI y3, xI v8, xR a, xI y2]) (fun v9 => [xI v9, xI y3, xI v8, xR a, xI y2]) dX10_printAll_57 mlX10_109 (kd10_0 h_a) rfl rfl rfl rfl rfl rfl (c_X10_turnOf (d := d + 2) h_a y3) (fun _ => trivial) (fun _ => rfl) (fun v9 => ?_)
      refine ev_callV (As := [xI v8, xI y3, xI v9]) (st := [xI y2]) (fun v10 => [xI v10.1, xI y2]) dX10_printAll_60 mlX10_153 (kd10_0 h_a) rfl rfl rfl rfl rfl rfl (c_X10_printOn (d := d + 2) h_a v8 y3 v9) (fun _ => trivial) (fun _ => rfl) (fun v10 => ?_)
      refine ev_st (pc' := 64) (L' := [xR a, xU, xI y2, xI y3]) (st' := [xI (w4 (y2 + v10.1))]) (fun _ _ _ k => e_iadd dX10_printAll_63 k) ?_
      refine ev_leti (fun x11 ex11 => ?_)
      refine ev_st (pc' := 65) (L' := [xR a, xU, xI x11, xI y3]) (st' := []) (fun _ _ _ k => e_istore_n dX10_printAll_64 rfl (i := 2) rfl (L' := [xR a, xU, xI x11, xI y3]) rfl k) ?_
      refine ev_letx (fun x12 ex12 => ?_)
      refine ev_st (pc' := 68) (L' := [xR a, xU, xI x11, xI x12]) (st' := []) (fun _ _ _ k => e_iinc dX10_printAll_65 (i := 3) rfl (x := y3) rfl (y := x12) ex12 (L' := [xR a, xU, xI x11, xI x12]) rfl k) ?_
      refine ev_st (pc' := 37) (L' := [xR a, xU, xI x11, xI x12]) (st' := []) (fun _ _ _ k => e_goto dX10_printAll_68 (tgt := 37) rfl k) ?_
      exact ih x11 x12 v10.2
set_option maxRecDepth 20000 in
set_option maxHeartbeats 4000000 in
theorem c_X10_printAll {l : Launch} {g : xG} {d : Nat} {A : xA} {R : xN} {a : Nat} (h_a : sh 10 A a) (i0 : Int) : Ev l g (d + 3) mX10_printAll 0 [xR a, xI i0, xU, xU] [] A R (fun v : Int × xN => some (xI v.1)) (fun v => v.2) (f_X10_printAll a i0 R) := by
  rw [f_X10_printAll]
  refine ev_st (pc' := 2) (L' := [xR a, xI i0, xU, xU]) (st' := [xI i0, xR a]) (fun _ _ _ k => e_aload_n dX10_printAll_0 rfl (i := 0) (x := a) rfl (e_iload_n dX10_printAll_1 rfl (i := 1) (x := i0) rfl k)) ?_
  refine ev_callV (As := [xI i0]) (st := []) (fun v1 => [xI (xz v1.1)]) dX10_printAll_2 mlX10_157 (kd10_0 h_a) rfl rfl rfl rfl rfl rfl (c_X10_layBy (d := d) h_a i0) (fun _ => xz01 _) (fun _ => rfl) (fun v1 => ?_)
  refine ev_br2 (P := v1.1 = true) (pct := 10) (pcf := 8) (st' := []) (fun _ _ _ kt kf => e_ifnez dX10_printAll_5 (tgt := 10) rfl kt kf) (fun h2 => ?_) (fun h2 => ?_)
  · refine ev_st (pc' := 16) (L' := [xR a, xI i0, xU, xU]) (st' := [xI (v1.2 (a + 1) 2)]) (fun _ _ _ k => e_aload_n dX10_printAll_10 rfl (i := 0) (x := a) rfl (e_getr dX10_printAll_11 flX10_7 (kd10_0 h_a) rfl (rf10_0_0 h_a) (e_iconst dX10_printAll_14 (k4 rfl) (e_iald dX10_printAll_15 (kd10_1 h_a) (by decide) (by decide) k)))) ?_
    refine ev_br2 (P := 0 < (v1.2 (a + 1) 2)) (pct := 26) (pcf := 19) (st' := []) (fun _ _ _ kt kf => e_ifgt dX10_printAll_16 (tgt := 26) rfl kt kf) (fun h3 => ?_) (fun h3 => ?_)
    · exact ev_ret (e_bipush dX10_printAll_26 rfl (k4 rfl) (e_iret dX10_printAll_28))
    · refine ev_st (pc' := 20) (L' := [xR a, xI i0, xU, xU]) (st' := [xR a]) (fun _ _ _ k => e_aload_n dX10_printAll_19 rfl (i := 0) (x := a) rfl k) ?_
      refine ev_callV (As := []) (st := []) (fun v4 => [xI (xz v4)]) dX10_printAll_20 mlX10_142 (kd10_0 h_a) rfl rfl rfl rfl rfl rfl (c_X10_isHeld (d := d + 2) h_a) (fun _ => xz01 _) (fun _ => rfl) (fun v4 => ?_)
      refine ev_br2 (P := v4 = true) (pct := 26) (pcf := 29) (st' := []) (fun _ _ _ kt kf => e_ifeqz dX10_printAll_23 (tgt := 29) rfl kt kf) (fun h5 => ?_) (fun h5 => ?_)
      · exact ev_ret (e_bipush dX10_printAll_26 rfl (k4 rfl) (e_iret dX10_printAll_28))
      · refine ev_st (pc' := 30) (L' := [xR a, xI i0, xU, xU]) (st' := [xR a]) (fun _ _ _ k => e_aload_n dX10_printAll_29 rfl (i := 0) (x := a) rfl k) ?_
        refine ev_callV (As := []) (st := []) (fun v6 => []) dX10_printAll_30 mlX10_139 (kd10_0 h_a) rfl rfl rfl rfl rfl rfl (c_X10_act (d := d + 1) h_a) (fun _ => trivial) (fun _ => rfl) (fun v6 => ?_)
        refine ev_st (pc' := 37) (L' := [xR a, xU, xI 0, xI 0]) (st' := []) (fun _ _ _ k => e_iconst dX10_printAll_33 (k4 rfl) (e_istore_n dX10_printAll_34 rfl (i := 2) rfl (L' := [xR a, xI i0, xI 0, xU]) rfl (e_iconst dX10_printAll_35 (k4 rfl) (e_istore_n dX10_printAll_36 rfl (i := 3) rfl (L' := [xR a, xI i0, xI 0, xI 0]) rfl (e_fg [1] k))))) ?_
        refine lc_X10_printAll_37 h_a (fun z13 z14 R15 => ?_) 6000 0 0 v6
        exact ev_ret (e_iload_n dX10_printAll_71 rfl (i := 2) (x := z13) rfl (e_iret dX10_printAll_72))
  · exact ev_ret (e_iconst dX10_printAll_8 (k4 rfl) (e_iret dX10_printAll_9))
def lp_X10_pairsAt_17 (a : Nat) (p1 : Int) (p3 : Int) (R : xN) : Nat → Int → Int → (Int → Int → Option (Int)) → Option (Int)
  | 0, _, _, _ => none
  | n + 1, y2, y4, X =>
    if (R a 9) ≤ y4 then
    X y2 y4
    else
    (f_X10_edgeOf a p3 y4 R).bind (fun v4 =>
    xlet (if v4 = p1 then 1 else 0) (fun t5 =>
    xlet (w4 (y2 + t5)) (fun x6 =>
    xlet (w4 (y4 + 1)) (fun x7 =>
    lp_X10_pairsAt_17 a p1 p3 R n x6 x7 X))))
def lp_X10_pairsAt_4 (a : Nat) (p1 : Int) (R : xN) : Nat → Int → Int → (Int → Int → Option (Int)) → Option (Int)
  | 0, _, _, _ => none
  | n + 1, y2, y3, X =>
    if (R a 9) ≤ y3 then
    X y2 y3
    else
    xlet (w4 (y3 + 1)) (fun x2 =>
    lp_X10_pairsAt_17 a p1 y3 R 6000 y2 x2 (fun z8 z9 =>
    xlet (w4 (y3 + 1)) (fun x10 =>
    lp_X10_pairsAt_4 a p1 R n z8 x10 X)))
def f_X10_pairsAt (a : Nat) (i0 : Int) (R : xN) : Option (Int) :=
  lp_X10_pairsAt_4 a i0 R 6000 0 0 (fun z11 z12 =>
  some z11)
set_option maxRecDepth 20000 in
set_option maxHeartbeats 4000000 in
theorem lc_X10_pairsAt_17 {l : Launch} {g : xG} {d : Nat} {A : xA} {a : Nat} (h_a : sh 10 A a) (p1 : Int) (p3 : Int) (R : xN) {X : Int → Int → Option (Int)} (hX : ∀ (y2 : Int) (y4 : Int), Ev l g (d + 1) mX10_pairsAt 51 [xR a, xI p1, xI y2, xI p3, xU] [] A R (fun v : Int => some (xI v)) (fun _ => R) (X y2 y4)) (n : Nat) (y2 : Int) (y4 : Int) : Ev l g (d + 1) mX10_pairsAt 17 [xR a, xI p1, xI y2, xI p3, xI y4] [] A R (fun v : Int => some (xI v)) (fun _ => R) (lp_X10_pairsAt_17 a p1 p3 R n y2 y4 X) := by
  induction n generalizing y2 y4 with
  | zero => exact ev_none
  | succ n ih =>
    rw [lp_X10_pairsAt_17]
    refine ev_st (pc' := 23) (L' := [xR a, xI p1, xI y2, xI p3, xI y4]) (st' := [xI (R a 9), xI y4]) (fun _ _ _ k => e_iload dX10_pairsAt_17 (i := 4) (x := y4) rfl (e_aload_n dX10_pairsAt_19 rfl (i := 0) (x := a) rfl (e_geti dX10_pairsAt_20 flX10_78 (kd10_0 h_a) (Or.inl rfl) k))) ?_
    refine ev_br2 (P := (R a 9) ≤ y4) (pct := 51) (pcf := 26) (st' := []) (fun _ _ _ kt kf => e_cge dX10_pairsAt_23 (tgt := 51) rfl kt kf) (fun h3 => ?_) (fun h3 => ?_)
    · refine ev_st (pc' := 51) (L' := [xR a, xI p1, xI y2, xI p3, xU]) (st' := []) (fun _ _ _ k => e_fg [4] k) ?_
      exact hX y2 y4
    · refine ev_st (pc' := 31) (L' := [xR a, xI p1, xI y2, xI p3, xI y4]) (st' := [xI y4, xI p3, xR a, xI y2]) (fun _ _ _ k => e_iload_n dX10_pairsAt_26 rfl (i := 2) (x := y2) rfl (e_aload_n dX10_pairsAt_27 rfl (i := 0) (x := a) rfl (e_iload_n dX10_pairsAt_28 rfl (i := 3) (x := p3) rfl (e_iload dX10_pairsAt_29 (i := 4) (x := y4) rfl k)))) ?_
      refine ev_callV (As := [xI p3, xI y4]) (st := [xI y2]) (fun v4 => [xI v4, xI y2]) dX10_pairsAt_31 mlX10_116 (kd10_0 h_a) rfl rfl rfl rfl rfl rfl (c_X10_edgeOf (d := d) h_a p3 y4) (fun _ => trivial) (fun _ => rfl) (fun v4 => ?_)
      refine ev_st (pc' := 35) (L' := [xR a, xI p1, xI y2, xI p3, xI y4]) (st' := [xI p1, xI v4, xI y2]) (fun _ _ _ k => e_iload_n dX10_pairsAt_34 rfl (i := 1) (x := p1) rfl k) ?_
      refine ev_tern (P := v4 = p1) (a := 1) (b := 0) (pct := 38) (pcf := 42) (J := 43) (st' := [xI y2]) (fun _ _ _ kt kf => e_cne dX10_pairsAt_35 (tgt := 42) rfl kt kf) (fun _ _ _ k => e_iconst dX10_pairsAt_38 (k4 rfl) (e_goto dX10_pairsAt_39 (tgt := 43) rfl k)) (fun _ _ _ k => e_iconst dX10_pairsAt_42 (k4 rfl) k) (fun t5 et5 => ?_)
      refine ev_st (pc' := 44) (L' := [xR a, xI p1, xI y2, xI p3, xI y4]) (st' := [xI (w4 (y2 + t5))]) (fun _ _ _ k => e_iadd dX10_pairsAt_43 k) ?_
      refine ev_leti (fun x6 ex6 => ?_)
      refine ev_st (pc' := 45) (L' := [xR a, xI p1, xI x6, xI p3, xI y4]) (st' := []) (fun _ _ _ k => e_istore_n dX10_pairsAt_44 rfl (i := 2) rfl (L' := [xR a, xI p1, xI x6, xI p3, xI y4]) rfl k) ?_
      refine ev_letx (fun x7 ex7 => ?_)
      refine ev_st (pc' := 48) (L' := [xR a, xI p1, xI x6, xI p3, xI x7]) (st' := []) (fun _ _ _ k => e_iinc dX10_pairsAt_45 (i := 4) rfl (x := y4) rfl (y := x7) ex7 (L' := [xR a, xI p1, xI x6, xI p3, xI x7]) rfl k) ?_
      refine ev_st (pc' := 17) (L' := [xR a, xI p1, xI x6, xI p3, xI x7]) (st' := []) (fun _ _ _ k => e_goto dX10_pairsAt_48 (tgt := 17) rfl k) ?_
      exact ih x6 x7
set_option maxRecDepth 20000 in
set_option maxHeartbeats 4000000 in
theorem lc_X10_pairsAt_4 {l : Launch} {g : xG} {d : Nat} {A : xA} {a : Nat} (h_a : sh 10 A a) (p1 : Int) (R : xN) {X : Int → Int → Option (Int)} (hX : ∀ (y2 : Int) (y3 : Int), Ev l g (d + 1) mX10_pairsAt 57 [xU, xU, xI y2, xU, xU] [] A R (fun v : Int => some (xI v)) (fun _ => R) (X y2 y3)) (n : Nat) (y2 : Int) (y3 : Int) : Ev l g (d + 1) mX10_pairsAt 4 [xR a, xI p1, xI y2, xI y3, xU] [] A R (fun v : Int => some (xI v)) (fun _ => R) (lp_X10_pairsAt_4 a p1 R n y2 y3 X) := by
  induction n generalizing y2 y3 with
  | zero => exact ev_none
  | succ n ih =>
    rw [lp_X10_pairsAt_4]
    refine ev_st (pc' := 9) (L' := [xR a, xI p1, xI y2, xI y3, xU]) (st' := [xI (R a 9), xI y3]) (fun _ _ _ k => e_iload_n dX10_pairsAt_4 rfl (i := 3) (x := y3) rfl (e_aload_n dX10_pairsAt_5 rfl (i := 0) (x := a) rfl (e_geti dX10_pairsAt_6 flX10_78 (kd10_0 h_a) (Or.inl rfl) k))) ?_
    refine ev_br2 (P := (R a 9) ≤ y3) (pct := 57) (pcf := 12) (st' := []) (fun _ _ _ kt kf => e_cge dX10_pairsAt_9 (tgt := 57) rfl kt kf) (fun h1 => ?_) (fun h1 => ?_)
    · refine ev_st (pc' := 57) (L' := [xU, xU, xI y2, xU, xU]) (st' := []) (fun _ _ _ k => e_fg [0, 1, 3] k) ?_
      exact hX y2 y3
    · refine ev_st (pc' := 15) (L' := [xR a, xI p1, xI y2, xI y3, xU]) (st' := [xI (w4 (y3 + 1))]) (fun _ _ _ k => e_iload_n dX10_pairsAt_12 rfl (i := 3) (x := y3) rfl (e_iconst dX10_pairsAt_13 (k4 rfl) (e_iadd dX10_pairsAt_14 k))) ?_
      refine ev_leti (fun x2 ex2 => ?_)
      refine ev_st (pc' := 17) (L' := [xR a, xI p1, xI y2, xI y3, xI x2]) (st' := []) (fun _ _ _ k => e_istore dX10_pairsAt_15 (i := 4) rfl (L' := [xR a, xI p1, xI y2, xI y3, xI x2]) rfl k) ?_
      refine lc_X10_pairsAt_17 h_a p1 y3 R (fun z8 z9 => ?_) 6000 y2 x2
      refine ev_letx (fun x10 ex10 => ?_)
      refine ev_st (pc' := 54) (L' := [xR a, xI p1, xI z8, xI x10, xU]) (st' := []) (fun _ _ _ k => e_iinc dX10_pairsAt_51 (i := 3) rfl (x := y3) rfl (y := x10) ex10 (L' := [xR a, xI p1, xI z8, xI x10, xU]) rfl k) ?_
      refine ev_st (pc' := 4) (L' := [xR a, xI p1, xI z8, xI x10, xU]) (st' := []) (fun _ _ _ k => e_goto dX10_pairsAt_54 (tgt := 4) rfl k) ?_
      exact ih z8 x10
set_option maxRecDepth 20000 in
set_option maxHeartbeats 4000000 in
theorem c_X10_pairsAt {l : Launch} {g : xG} {d : Nat} {A : xA} {R : xN} {a : Nat} (h_a : sh 10 A a) (i0 : Int) : Ev l g (d + 1) mX10_pairsAt 0 [xR a, xI i0, xU, xU, xU] [] A R (fun v : Int => some (xI v)) (fun _ => R) (f_X10_pairsAt a i0 R) := by
  rw [f_X10_pairsAt]
  refine ev_st (pc' := 4) (L' := [xR a, xI i0, xI 0, xI 0, xU]) (st' := []) (fun _ _ _ k => e_iconst dX10_pairsAt_0 (k4 rfl) (e_istore_n dX10_pairsAt_1 rfl (i := 2) rfl (L' := [xR a, xI i0, xI 0, xU, xU]) rfl (e_iconst dX10_pairsAt_2 (k4 rfl) (e_istore_n dX10_pairsAt_3 rfl (i := 3) rfl (L' := [xR a, xI i0, xI 0, xI 0, xU]) rfl k)))) ?_
  refine lc_X10_pairsAt_4 h_a i0 R (fun z11 z12 => ?_) 6000 0 0
  exact ev_ret (e_iload_n dX10_pairsAt_57 rfl (i := 2) (x := z11) rfl (e_iret dX10_pairsAt_58))
def f_X10_cut (a : Nat) (i0 : Int) (R : xN) : Option (Int × xN) :=
  (f_X10_in i0 0 3 R).bind (fun v1 =>
  if v1 = true then
  (f_X10_isBooklet a R).bind (fun v3 =>
  if v3.1 = true then
  (f_X10_has (v3.2 (a + 1) 8) i0 v3.2).bind (fun v5 =>
  if v5 = true then
  some ((-2), v3.2)
  else
  (f_X10_act a v3.2).bind (fun v7 =>
  xlet (xup v7 (a + 1) 8 (b4or (v7 (a + 1) 8) (b4shl 1 i0))) (fun R8 =>
  xlet (xup R8 (a + 1) 88 (w4 ((R8 (a + 1) 88) + (R8 a 9)))) (fun R9 =>
  (f_X10_pairsAt a i0 R9).bind (fun v10 =>
  some (v10, R9))))))
  else
  some ((-2), v3.2))
  else
  some ((-1), R))
set_option maxRecDepth 20000 in
set_option maxHeartbeats 4000000 in
theorem c_X10_cut {l : Launch} {g : xG} {d : Nat} {A : xA} {R : xN} {a : Nat} (h_a : sh 10 A a) (i0 : Int) : Ev l g (d + 4) mX10_cut 0 [xR a, xI i0] [] A R (fun v : Int × xN => some (xI v.1)) (fun v => v.2) (f_X10_cut a i0 R) := by
  rw [f_X10_cut]
  refine ev_st (pc' := 6) (L' := [xR a, xI i0]) (st' := [xL 3, xL 0, xL i0]) (fun _ _ _ k => e_iload_n dX10_cut_0 rfl (i := 1) (x := i0) rfl (e_i2l dX10_cut_1 (e_lconst dX10_cut_2 (i := 0) rfl (k8 rfl) (e_ldc2 dX10_cut_3 ckX10_160 (k8 rfl) k)))) ?_
  refine ev_callS (As := [xL i0, xL 0, xL 3]) (st := []) (fun v1 => [xI (xz v1)]) dX10_cut_6 mlX10_101 rfl rfl rfl rfl rfl rfl (c_X10_in (d := d + 3) i0 0 3) (fun _ => xz01 _) (fun _ => rfl) (fun v1 => ?_)
  refine ev_br2 (P := v1 = true) (pct := 14) (pcf := 12) (st' := []) (fun _ _ _ kt kf => e_ifnez dX10_cut_9 (tgt := 14) rfl kt kf) (fun h2 => ?_) (fun h2 => ?_)
  · refine ev_st (pc' := 15) (L' := [xR a, xI i0]) (st' := [xR a]) (fun _ _ _ k => e_aload_n dX10_cut_14 rfl (i := 0) (x := a) rfl k) ?_
    refine ev_callV (As := []) (st := []) (fun v3 => [xI (xz v3.1)]) dX10_cut_15 mlX10_162 (kd10_0 h_a) rfl rfl rfl rfl rfl rfl (c_X10_isBooklet (d := d) h_a) (fun _ => xz01 _) (fun _ => rfl) (fun v3 => ?_)
    refine ev_br2 (P := v3.1 = true) (pct := 21) (pcf := 35) (st' := []) (fun _ _ _ kt kf => e_ifeqz dX10_cut_18 (tgt := 35) rfl kt kf) (fun h4 => ?_) (fun h4 => ?_)
    · refine ev_st (pc' := 29) (L' := [xR a, xI i0]) (st' := [xI i0, xI (v3.2 (a + 1) 8)]) (fun _ _ _ k => e_aload_n dX10_cut_21 rfl (i := 0) (x := a) rfl (e_getr dX10_cut_22 flX10_7 (kd10_0 h_a) rfl (rf10_0_0 h_a) (e_bipush dX10_cut_25 rfl (k4 rfl) (e_iald dX10_cut_27 (kd10_1 h_a) (by decide) (by decide) (e_iload_n dX10_cut_28 rfl (i := 1) (x := i0) rfl k))))) ?_
      refine ev_callS (As := [xI (v3.2 (a + 1) 8), xI i0]) (st := []) (fun v5 => [xI (xz v5)]) dX10_cut_29 mlX10_120 rfl rfl rfl rfl rfl rfl (c_X10_has (d := d + 3) (v3.2 (a + 1) 8) i0) (fun _ => xz01 _) (fun _ => rfl) (fun v5 => ?_)
      refine ev_br2 (P := v5 = true) (pct := 35) (pcf := 38) (st' := []) (fun _ _ _ kt kf => e_ifeqz dX10_cut_32 (tgt := 38) rfl kt kf) (fun h6 => ?_) (fun h6 => ?_)
      · exact ev_ret (e_bipush dX10_cut_35 rfl (k4 rfl) (e_iret dX10_cut_37))
      · refine ev_st (pc' := 39) (L' := [xR a, xI i0]) (st' := [xR a]) (fun _ _ _ k => e_aload_n dX10_cut_38 rfl (i := 0) (x := a) rfl k) ?_
        refine ev_callV (As := []) (st := []) (fun v7 => []) dX10_cut_39 mlX10_139 (kd10_0 h_a) rfl rfl rfl rfl rfl rfl (c_X10_act (d := d + 2) h_a) (fun _ => trivial) (fun _ => rfl) (fun v7 => ?_)
        refine ev_st (pc' := 55) (L' := [xR a, xI i0]) (st' := []) (fun _ _ _ k => e_aload_n dX10_cut_42 rfl (i := 0) (x := a) rfl (e_getr dX10_cut_43 flX10_7 (kd10_0 h_a) rfl (rf10_0_0 h_a) (e_bipush dX10_cut_46 rfl (k4 rfl) (e_dup2 dX10_cut_48 (e_iald dX10_cut_49 (kd10_1 h_a) (by decide) (by decide) (e_iconst dX10_cut_50 (k4 rfl) (e_iload_n dX10_cut_51 rfl (i := 1) (x := i0) rfl (e_ishl dX10_cut_52 (e_ior dX10_cut_53 (e_iast dX10_cut_54 (kd10_1 h_a) (by decide) (by decide) k)))))))))) ?_
        refine ev_letR (fun R8 eR8 => ?_)
        refine ev_st (pc' := 69) (L' := [xR a, xI i0]) (st' := []) (fun _ _ _ k => e_aload_n dX10_cut_55 rfl (i := 0) (x := a) rfl (e_getr dX10_cut_56 flX10_7 (kd10_0 h_a) rfl (rf10_0_0 h_a) (e_bipush dX10_cut_59 rfl (k4 rfl) (e_dup2 dX10_cut_61 (e_iald dX10_cut_62 (kd10_1 h_a) (by decide) (by decide) (e_aload_n dX10_cut_63 rfl (i := 0) (x := a) rfl (e_geti dX10_cut_64 flX10_78 (kd10_0 h_a) (Or.inl rfl) (e_iadd dX10_cut_67 (e_iast dX10_cut_68 (kd10_1 h_a) (by decide) (by decide) k))))))))) ?_
        refine ev_letR (fun R9 eR9 => ?_)
        refine ev_st (pc' := 71) (L' := [xR a, xI i0]) (st' := [xI i0, xR a]) (fun _ _ _ k => e_aload_n dX10_cut_69 rfl (i := 0) (x := a) rfl (e_iload_n dX10_cut_70 rfl (i := 1) (x := i0) rfl k)) ?_
        refine ev_callV (As := [xI i0]) (st := []) (fun v10 => [xI v10]) dX10_cut_71 mlX10_165 (kd10_0 h_a) rfl rfl rfl rfl rfl rfl (c_X10_pairsAt (d := d + 2) h_a i0) (fun _ => trivial) (fun _ => rfl) (fun v10 => ?_)
        exact ev_ret (e_iret dX10_cut_74)
    · exact ev_ret (e_bipush dX10_cut_35 rfl (k4 rfl) (e_iret dX10_cut_37))
  · exact ev_ret (e_iconst dX10_cut_12 (k4 rfl) (e_iret dX10_cut_13))
def f_X10_staple (a : Nat) (i0 : Int) (R : xN) : Option (Int × xN) :=
  (f_X10_in i0 0 9 R).bind (fun v1 =>
  if v1 = true then
  (f_X10_isBooklet a R).bind (fun v3 =>
  if v3.1 = true then
  (f_X10_has (v3.2 (a + 1) 9) i0 v3.2).bind (fun v5 =>
  if v5 = true then
  some ((-2), v3.2)
  else
  (f_X10_ones (v3.2 (a + 1) 9) v3.2).bind (fun v7 =>
  if v7 = 3 then
  some ((-3), v3.2)
  else
  (f_X10_act a v3.2).bind (fun v9 =>
  xlet (xup v9 (a + 1) 9 (b4or (v9 (a + 1) 9) (b4shl 1 i0))) (fun R10 =>
  xlet (xup R10 (a + 1) 89 (w4 ((R10 (a + 1) 89) + 3))) (fun R11 =>
  if (R11 a 9) ≤ (R11 (a + 1) 10) then
  some ((R11 a 9), R11)
  else
  some ((R11 (a + 1) 10), R11))))))
  else
  some ((-2), v3.2))
  else
  some ((-1), R))
set_option maxRecDepth 20000 in
set_option maxHeartbeats 4000000 in
theorem c_X10_staple {l : Launch} {g : xG} {d : Nat} {A : xA} {R : xN} {a : Nat} (h_a : sh 10 A a) (i0 : Int) : Ev l g (d + 4) mX10_staple 0 [xR a, xI i0] [] A R (fun v : Int × xN => some (xI v.1)) (fun v => v.2) (f_X10_staple a i0 R) := by
  rw [f_X10_staple]
  refine ev_st (pc' := 6) (L' := [xR a, xI i0]) (st' := [xL 9, xL 0, xL i0]) (fun _ _ _ k => e_iload_n dX10_staple_0 rfl (i := 1) (x := i0) rfl (e_i2l dX10_staple_1 (e_lconst dX10_staple_2 (i := 0) rfl (k8 rfl) (e_ldc2 dX10_staple_3 ckX10_168 (k8 rfl) k)))) ?_
  refine ev_callS (As := [xL i0, xL 0, xL 9]) (st := []) (fun v1 => [xI (xz v1)]) dX10_staple_6 mlX10_101 rfl rfl rfl rfl rfl rfl (c_X10_in (d := d + 3) i0 0 9) (fun _ => xz01 _) (fun _ => rfl) (fun v1 => ?_)
  refine ev_br2 (P := v1 = true) (pct := 14) (pcf := 12) (st' := []) (fun _ _ _ kt kf => e_ifnez dX10_staple_9 (tgt := 14) rfl kt kf) (fun h2 => ?_) (fun h2 => ?_)
  · refine ev_st (pc' := 15) (L' := [xR a, xI i0]) (st' := [xR a]) (fun _ _ _ k => e_aload_n dX10_staple_14 rfl (i := 0) (x := a) rfl k) ?_
    refine ev_callV (As := []) (st := []) (fun v3 => [xI (xz v3.1)]) dX10_staple_15 mlX10_162 (kd10_0 h_a) rfl rfl rfl rfl rfl rfl (c_X10_isBooklet (d := d) h_a) (fun _ => xz01 _) (fun _ => rfl) (fun v3 => ?_)
    refine ev_br2 (P := v3.1 = true) (pct := 21) (pcf := 35) (st' := []) (fun _ _ _ kt kf => e_ifeqz dX10_staple_18 (tgt := 35) rfl kt kf) (fun h4 => ?_) (fun h4 => ?_)
    · refine ev_st (pc' := 29) (L' := [xR a, xI i0]) (st' := [xI i0, xI (v3.2 (a + 1) 9)]) (fun _ _ _ k => e_aload_n dX10_staple_21 rfl (i := 0) (x := a) rfl (e_getr dX10_staple_22 flX10_7 (kd10_0 h_a) rfl (rf10_0_0 h_a) (e_bipush dX10_staple_25 rfl (k4 rfl) (e_iald dX10_staple_27 (kd10_1 h_a) (by decide) (by decide) (e_iload_n dX10_staple_28 rfl (i := 1) (x := i0) rfl k))))) ?_
      refine ev_callS (As := [xI (v3.2 (a + 1) 9), xI i0]) (st := []) (fun v5 => [xI (xz v5)]) dX10_staple_29 mlX10_120 rfl rfl rfl rfl rfl rfl (c_X10_has (d := d + 3) (v3.2 (a + 1) 9) i0) (fun _ => xz01 _) (fun _ => rfl) (fun v5 => ?_)
      refine ev_br2 (P := v5 = true) (pct := 35) (pcf := 38) (st' := []) (fun _ _ _ kt kf => e_ifeqz dX10_staple_32 (tgt := 38) rfl kt kf) (fun h6 => ?_) (fun h6 => ?_)
      · exact ev_ret (e_bipush dX10_staple_35 rfl (k4 rfl) (e_iret dX10_staple_37))
      · refine ev_st (pc' := 45) (L' := [xR a, xI i0]) (st' := [xI (v3.2 (a + 1) 9)]) (fun _ _ _ k => e_aload_n dX10_staple_38 rfl (i := 0) (x := a) rfl (e_getr dX10_staple_39 flX10_7 (kd10_0 h_a) rfl (rf10_0_0 h_a) (e_bipush dX10_staple_42 rfl (k4 rfl) (e_iald dX10_staple_44 (kd10_1 h_a) (by decide) (by decide) k)))) ?_
        refine ev_callS (As := [xI (v3.2 (a + 1) 9)]) (st := []) (fun v7 => [xI v7]) dX10_staple_45 mlX10_170 rfl rfl rfl rfl rfl rfl (c_X10_ones (d := d + 3) (v3.2 (a + 1) 9)) (fun _ => trivial) (fun _ => rfl) (fun v7 => ?_)
        refine ev_st (pc' := 49) (L' := [xR a, xI i0]) (st' := [xI 3, xI v7]) (fun _ _ _ k => e_iconst dX10_staple_48 (k4 rfl) k) ?_
        refine ev_br2 (P := v7 = 3) (pct := 52) (pcf := 55) (st' := []) (fun _ _ _ kt kf => e_cne dX10_staple_49 (tgt := 55) rfl kt kf) (fun h8 => ?_) (fun h8 => ?_)
        · exact ev_ret (e_bipush dX10_staple_52 rfl (k4 rfl) (e_iret dX10_staple_54))
        · refine ev_st (pc' := 56) (L' := [xR a, xI i0]) (st' := [xR a]) (fun _ _ _ k => e_aload_n dX10_staple_55 rfl (i := 0) (x := a) rfl k) ?_
          refine ev_callV (As := []) (st := []) (fun v9 => []) dX10_staple_56 mlX10_139 (kd10_0 h_a) rfl rfl rfl rfl rfl rfl (c_X10_act (d := d + 2) h_a) (fun _ => trivial) (fun _ => rfl) (fun v9 => ?_)
          refine ev_st (pc' := 72) (L' := [xR a, xI i0]) (st' := []) (fun _ _ _ k => e_aload_n dX10_staple_59 rfl (i := 0) (x := a) rfl (e_getr dX10_staple_60 flX10_7 (kd10_0 h_a) rfl (rf10_0_0 h_a) (e_bipush dX10_staple_63 rfl (k4 rfl) (e_dup2 dX10_staple_65 (e_iald dX10_staple_66 (kd10_1 h_a) (by decide) (by decide) (e_iconst dX10_staple_67 (k4 rfl) (e_iload_n dX10_staple_68 rfl (i := 1) (x := i0) rfl (e_ishl dX10_staple_69 (e_ior dX10_staple_70 (e_iast dX10_staple_71 (kd10_1 h_a) (by decide) (by decide) k)))))))))) ?_
          refine ev_letR (fun R10 eR10 => ?_)
          refine ev_st (pc' := 83) (L' := [xR a, xI i0]) (st' := []) (fun _ _ _ k => e_aload_n dX10_staple_72 rfl (i := 0) (x := a) rfl (e_getr dX10_staple_73 flX10_7 (kd10_0 h_a) rfl (rf10_0_0 h_a) (e_bipush dX10_staple_76 rfl (k4 rfl) (e_dup2 dX10_staple_78 (e_iald dX10_staple_79 (kd10_1 h_a) (by decide) (by decide) (e_iconst dX10_staple_80 (k4 rfl) (e_iadd dX10_staple_81 (e_iast dX10_staple_82 (kd10_1 h_a) (by decide) (by decide) k)))))))) ?_
          refine ev_letR (fun R11 eR11 => ?_)
          refine ev_st (pc' := 94) (L' := [xR a, xI i0]) (st' := [xI (R11 a 9), xI (R11 (a + 1) 10)]) (fun _ _ _ k => e_aload_n dX10_staple_83 rfl (i := 0) (x := a) rfl (e_getr dX10_staple_84 flX10_7 (kd10_0 h_a) rfl (rf10_0_0 h_a) (e_bipush dX10_staple_87 rfl (k4 rfl) (e_iald dX10_staple_89 (kd10_1 h_a) (by decide) (by decide) (e_aload_n dX10_staple_90 rfl (i := 0) (x := a) rfl (e_geti dX10_staple_91 flX10_78 (kd10_0 h_a) (Or.inl rfl) k)))))) ?_
          refine ev_br2 (P := (R11 a 9) ≤ (R11 (a + 1) 10)) (pct := 107) (pcf := 97) (st' := []) (fun _ _ _ kt kf => e_cge dX10_staple_94 (tgt := 107) rfl kt kf) (fun h12 => ?_) (fun h12 => ?_)
          · exact ev_ret (e_aload_n dX10_staple_107 rfl (i := 0) (x := a) rfl (e_geti dX10_staple_108 flX10_78 (kd10_0 h_a) (Or.inl rfl) (e_iret dX10_staple_111)))
          · exact ev_ret (e_aload_n dX10_staple_97 rfl (i := 0) (x := a) rfl (e_getr dX10_staple_98 flX10_7 (kd10_0 h_a) rfl (rf10_0_0 h_a) (e_bipush dX10_staple_101 rfl (k4 rfl) (e_iald dX10_staple_103 (kd10_1 h_a) (by decide) (by decide) (e_goto dX10_staple_104 (tgt := 111) rfl (e_iret dX10_staple_111))))))
    · exact ev_ret (e_bipush dX10_staple_35 rfl (k4 rfl) (e_iret dX10_staple_37))
  · exact ev_ret (e_iconst dX10_staple_12 (k4 rfl) (e_iret dX10_staple_13))
def f_X10_unstaple (a : Nat) (i0 : Int) (R : xN) : Option (Int × xN) :=
  (f_X10_in i0 0 9 R).bind (fun v1 =>
  if v1 = true then
  (f_X10_has (R (a + 1) 9) i0 R).bind (fun v3 =>
  if v3 = true then
  (f_X10_act a R).bind (fun v5 =>
  xlet (xup v5 (a + 1) 9 (b4and (v5 (a + 1) 9) (b4xor (b4shl 1 i0) (-1)))) (fun R6 =>
  xlet (xup R6 (a + 1) 89 (w4 ((R6 (a + 1) 89) + 1))) (fun R7 =>
  (f_X10_ones (R7 (a + 1) 9) R7).bind (fun v8 =>
  some (v8, R7)))))
  else
  some ((-2), R))
  else
  some ((-1), R))
set_option maxRecDepth 20000 in
set_option maxHeartbeats 4000000 in
theorem c_X10_unstaple {l : Launch} {g : xG} {d : Nat} {A : xA} {R : xN} {a : Nat} (h_a : sh 10 A a) (i0 : Int) : Ev l g (d + 2) mX10_unstaple 0 [xR a, xI i0] [] A R (fun v : Int × xN => some (xI v.1)) (fun v => v.2) (f_X10_unstaple a i0 R) := by
  rw [f_X10_unstaple]
  refine ev_st (pc' := 6) (L' := [xR a, xI i0]) (st' := [xL 9, xL 0, xL i0]) (fun _ _ _ k => e_iload_n dX10_unstaple_0 rfl (i := 1) (x := i0) rfl (e_i2l dX10_unstaple_1 (e_lconst dX10_unstaple_2 (i := 0) rfl (k8 rfl) (e_ldc2 dX10_unstaple_3 ckX10_168 (k8 rfl) k)))) ?_
  refine ev_callS (As := [xL i0, xL 0, xL 9]) (st := []) (fun v1 => [xI (xz v1)]) dX10_unstaple_6 mlX10_101 rfl rfl rfl rfl rfl rfl (c_X10_in (d := d + 1) i0 0 9) (fun _ => xz01 _) (fun _ => rfl) (fun v1 => ?_)
  refine ev_br2 (P := v1 = true) (pct := 14) (pcf := 12) (st' := []) (fun _ _ _ kt kf => e_ifnez dX10_unstaple_9 (tgt := 14) rfl kt kf) (fun h2 => ?_) (fun h2 => ?_)
  · refine ev_st (pc' := 22) (L' := [xR a, xI i0]) (st' := [xI i0, xI (R (a + 1) 9)]) (fun _ _ _ k => e_aload_n dX10_unstaple_14 rfl (i := 0) (x := a) rfl (e_getr dX10_unstaple_15 flX10_7 (kd10_0 h_a) rfl (rf10_0_0 h_a) (e_bipush dX10_unstaple_18 rfl (k4 rfl) (e_iald dX10_unstaple_20 (kd10_1 h_a) (by decide) (by decide) (e_iload_n dX10_unstaple_21 rfl (i := 1) (x := i0) rfl k))))) ?_
    refine ev_callS (As := [xI (R (a + 1) 9), xI i0]) (st := []) (fun v3 => [xI (xz v3)]) dX10_unstaple_22 mlX10_120 rfl rfl rfl rfl rfl rfl (c_X10_has (d := d + 1) (R (a + 1) 9) i0) (fun _ => xz01 _) (fun _ => rfl) (fun v3 => ?_)
    refine ev_br2 (P := v3 = true) (pct := 31) (pcf := 28) (st' := []) (fun _ _ _ kt kf => e_ifnez dX10_unstaple_25 (tgt := 31) rfl kt kf) (fun h4 => ?_) (fun h4 => ?_)
    · refine ev_st (pc' := 32) (L' := [xR a, xI i0]) (st' := [xR a]) (fun _ _ _ k => e_aload_n dX10_unstaple_31 rfl (i := 0) (x := a) rfl k) ?_
      refine ev_callV (As := []) (st := []) (fun v5 => []) dX10_unstaple_32 mlX10_139 (kd10_0 h_a) rfl rfl rfl rfl rfl rfl (c_X10_act (d := d) h_a) (fun _ => trivial) (fun _ => rfl) (fun v5 => ?_)
      refine ev_st (pc' := 50) (L' := [xR a, xI i0]) (st' := []) (fun _ _ _ k => e_aload_n dX10_unstaple_35 rfl (i := 0) (x := a) rfl (e_getr dX10_unstaple_36 flX10_7 (kd10_0 h_a) rfl (rf10_0_0 h_a) (e_bipush dX10_unstaple_39 rfl (k4 rfl) (e_dup2 dX10_unstaple_41 (e_iald dX10_unstaple_42 (kd10_1 h_a) (by decide) (by decide) (e_iconst dX10_unstaple_43 (k4 rfl) (e_iload_n dX10_unstaple_44 rfl (i := 1) (x := i0) rfl (e_ishl dX10_unstaple_45 (e_iconst dX10_unstaple_46 (k4 rfl) (e_ixor dX10_unstaple_47 (e_iand dX10_unstaple_48 (e_iast dX10_unstaple_49 (kd10_1 h_a) (by decide) (by decide) k)))))))))))) ?_
      refine ev_letR (fun R6 eR6 => ?_)
      refine ev_st (pc' := 61) (L' := [xR a, xI i0]) (st' := []) (fun _ _ _ k => e_aload_n dX10_unstaple_50 rfl (i := 0) (x := a) rfl (e_getr dX10_unstaple_51 flX10_7 (kd10_0 h_a) rfl (rf10_0_0 h_a) (e_bipush dX10_unstaple_54 rfl (k4 rfl) (e_dup2 dX10_unstaple_56 (e_iald dX10_unstaple_57 (kd10_1 h_a) (by decide) (by decide) (e_iconst dX10_unstaple_58 (k4 rfl) (e_iadd dX10_unstaple_59 (e_iast dX10_unstaple_60 (kd10_1 h_a) (by decide) (by decide) k)))))))) ?_
      refine ev_letR (fun R7 eR7 => ?_)
      refine ev_st (pc' := 68) (L' := [xR a, xI i0]) (st' := [xI (R7 (a + 1) 9)]) (fun _ _ _ k => e_aload_n dX10_unstaple_61 rfl (i := 0) (x := a) rfl (e_getr dX10_unstaple_62 flX10_7 (kd10_0 h_a) rfl (rf10_0_0 h_a) (e_bipush dX10_unstaple_65 rfl (k4 rfl) (e_iald dX10_unstaple_67 (kd10_1 h_a) (by decide) (by decide) k)))) ?_
      refine ev_callS (As := [xI (R7 (a + 1) 9)]) (st := []) (fun v8 => [xI v8]) dX10_unstaple_68 mlX10_170 rfl rfl rfl rfl rfl rfl (c_X10_ones (d := d + 1) (R7 (a + 1) 9)) (fun _ => trivial) (fun _ => rfl) (fun v8 => ?_)
      exact ev_ret (e_iret dX10_unstaple_71)
    · exact ev_ret (e_bipush dX10_unstaple_28 rfl (k4 rfl) (e_iret dX10_unstaple_30))
  · exact ev_ret (e_iconst dX10_unstaple_12 (k4 rfl) (e_iret dX10_unstaple_13))
def f_X10_setLegs (a : Nat) (i0 : Int) (R : xN) : Option (Int × xN) :=
  (f_X10_in i0 1 16 R).bind (fun v1 =>
  if v1 = true then
  (f_X10_act a R).bind (fun v3 =>
  xlet (v3 (a + 1) 10) (fun x4 =>
  xlet (xup v3 (a + 1) 10 i0) (fun R5 =>
  some (x4, R5))))
  else
  some ((-1), R))
set_option maxRecDepth 20000 in
set_option maxHeartbeats 4000000 in
theorem c_X10_setLegs {l : Launch} {g : xG} {d : Nat} {A : xA} {R : xN} {a : Nat} (h_a : sh 10 A a) (i0 : Int) : Ev l g (d + 2) mX10_setLegs 0 [xR a, xI i0, xU] [] A R (fun v : Int × xN => some (xI v.1)) (fun v => v.2) (f_X10_setLegs a i0 R) := by
  rw [f_X10_setLegs]
  refine ev_st (pc' := 6) (L' := [xR a, xI i0, xU]) (st' := [xL 16, xL 1, xL i0]) (fun _ _ _ k => e_iload_n dX10_setLegs_0 rfl (i := 1) (x := i0) rfl (e_i2l dX10_setLegs_1 (e_lconst dX10_setLegs_2 (i := 1) rfl (k8 rfl) (e_ldc2 dX10_setLegs_3 ckX10_173 (k8 rfl) k)))) ?_
  refine ev_callS (As := [xL i0, xL 1, xL 16]) (st := []) (fun v1 => [xI (xz v1)]) dX10_setLegs_6 mlX10_101 rfl rfl rfl rfl rfl rfl (c_X10_in (d := d + 1) i0 1 16) (fun _ => xz01 _) (fun _ => rfl) (fun v1 => ?_)
  refine ev_br2 (P := v1 = true) (pct := 14) (pcf := 12) (st' := []) (fun _ _ _ kt kf => e_ifnez dX10_setLegs_9 (tgt := 14) rfl kt kf) (fun h2 => ?_) (fun h2 => ?_)
  · refine ev_st (pc' := 15) (L' := [xR a, xI i0, xU]) (st' := [xR a]) (fun _ _ _ k => e_aload_n dX10_setLegs_14 rfl (i := 0) (x := a) rfl k) ?_
    refine ev_callV (As := []) (st := []) (fun v3 => []) dX10_setLegs_15 mlX10_139 (kd10_0 h_a) rfl rfl rfl rfl rfl rfl (c_X10_act (d := d) h_a) (fun _ => trivial) (fun _ => rfl) (fun v3 => ?_)
    refine ev_st (pc' := 25) (L' := [xR a, xI i0, xU]) (st' := [xI (v3 (a + 1) 10)]) (fun _ _ _ k => e_aload_n dX10_setLegs_18 rfl (i := 0) (x := a) rfl (e_getr dX10_setLegs_19 flX10_7 (kd10_0 h_a) rfl (rf10_0_0 h_a) (e_bipush dX10_setLegs_22 rfl (k4 rfl) (e_iald dX10_setLegs_24 (kd10_1 h_a) (by decide) (by decide) k)))) ?_
    refine ev_leti (fun x4 ex4 => ?_)
    refine ev_st (pc' := 26) (L' := [xR a, xI i0, xI x4]) (st' := []) (fun _ _ _ k => e_istore_n dX10_setLegs_25 rfl (i := 2) rfl (L' := [xR a, xI i0, xI x4]) rfl k) ?_
    refine ev_st (pc' := 34) (L' := [xR a, xI i0, xI x4]) (st' := []) (fun _ _ _ k => e_aload_n dX10_setLegs_26 rfl (i := 0) (x := a) rfl (e_getr dX10_setLegs_27 flX10_7 (kd10_0 h_a) rfl (rf10_0_0 h_a) (e_bipush dX10_setLegs_30 rfl (k4 rfl) (e_iload_n dX10_setLegs_32 rfl (i := 1) (x := i0) rfl (e_iast dX10_setLegs_33 (kd10_1 h_a) (by decide) (by decide) k))))) ?_
    refine ev_letR (fun R5 eR5 => ?_)
    exact ev_ret (e_iload_n dX10_setLegs_34 rfl (i := 2) (x := x4) rfl (e_iret dX10_setLegs_35))
  · exact ev_ret (e_iconst dX10_setLegs_12 (k4 rfl) (e_iret dX10_setLegs_13))
def f_X10_see (a : Nat) (i0 : Int) (i1 : Int) (i2 : Int) (R : xN) : Option (Int × xN) :=
  (f_X10_cells a R).bind (fun v1 =>
  (f_X10_in i0 0 (w4 ((w4 (2 * v1)) - 1)) R).bind (fun v2 =>
  if v2 = true then
  (f_X10_in i1 0 31 R).bind (fun v4 =>
  if v4 = true then
  (f_X10_in i2 0 1 R).bind (fun v6 =>
  if v6 = true then
  if (R (a + 1) 12) = 8 then
  some ((-3), R)
  else
  (f_X10_act a R).bind (fun v9 =>
  xlet (w4 (13 + (w4 (3 * (v9 (a + 1) 12))))) (fun x10 =>
  if 0 ≤ x10 ∧ x10 < 464 then
  xlet (xup v9 (a + 1) (x10).toNat i0) (fun R12 =>
  if 0 ≤ (w4 (x10 + 1)) ∧ (w4 (x10 + 1)) < 464 then
  xlet (xup R12 (a + 1) ((w4 (x10 + 1))).toNat i1) (fun R14 =>
  if 0 ≤ (w4 (x10 + 2)) ∧ (w4 (x10 + 2)) < 464 then
  xlet (xup R14 (a + 1) ((w4 (x10 + 2))).toNat i2) (fun R16 =>
  xlet (xup R16 (a + 1) 12 (w4 ((R16 (a + 1) 12) + 1))) (fun R17 =>
  some ((R17 (a + 1) 12), R17)))
  else none)
  else none)
  else none))
  else
  some ((-1), R))
  else
  some ((-1), R))
  else
  some ((-1), R)))
set_option maxRecDepth 20000 in
set_option maxHeartbeats 4000000 in
theorem c_X10_see {l : Launch} {g : xG} {d : Nat} {A : xA} {R : xN} {a : Nat} (h_a : sh 10 A a) (i0 : Int) (i1 : Int) (i2 : Int) : Ev l g (d + 2) mX10_see 0 [xR a, xI i0, xI i1, xI i2, xU] [] A R (fun v : Int × xN => some (xI v.1)) (fun v => v.2) (f_X10_see a i0 i1 i2 R) := by
  rw [f_X10_see]
  refine ev_st (pc' := 5) (L' := [xR a, xI i0, xI i1, xI i2, xU]) (st' := [xR a, xI 2, xL 0, xL i0]) (fun _ _ _ k => e_iload_n dX10_see_0 rfl (i := 1) (x := i0) rfl (e_i2l dX10_see_1 (e_lconst dX10_see_2 (i := 0) rfl (k8 rfl) (e_iconst dX10_see_3 (k4 rfl) (e_aload_n dX10_see_4 rfl (i := 0) (x := a) rfl k))))) ?_
  refine ev_callV (As := []) (st := [xI 2, xL 0, xL i0]) (fun v1 => [xI v1, xI 2, xL 0, xL i0]) dX10_see_5 mlX10_95 (kd10_0 h_a) rfl rfl rfl rfl rfl rfl (c_X10_cells (d := d + 1) h_a) (fun _ => trivial) (fun _ => rfl) (fun v1 => ?_)
  refine ev_st (pc' := 12) (L' := [xR a, xI i0, xI i1, xI i2, xU]) (st' := [xL (w4 ((w4 (2 * v1)) - 1)), xL 0, xL i0]) (fun _ _ _ k => e_imul dX10_see_8 (e_iconst dX10_see_9 (k4 rfl) (e_isub dX10_see_10 (e_i2l dX10_see_11 k)))) ?_
  refine ev_callS (As := [xL i0, xL 0, xL (w4 ((w4 (2 * v1)) - 1))]) (st := []) (fun v2 => [xI (xz v2)]) dX10_see_12 mlX10_101 rfl rfl rfl rfl rfl rfl (c_X10_in (d := d + 1) i0 0 (w4 ((w4 (2 * v1)) - 1))) (fun _ => xz01 _) (fun _ => rfl) (fun v2 => ?_)
  refine ev_br2 (P := v2 = true) (pct := 18) (pcf := 40) (st' := []) (fun _ _ _ kt kf => e_ifeqz dX10_see_15 (tgt := 40) rfl kt kf) (fun h3 => ?_) (fun h3 => ?_)
  · refine ev_st (pc' := 24) (L' := [xR a, xI i0, xI i1, xI i2, xU]) (st' := [xL 31, xL 0, xL i1]) (fun _ _ _ k => e_iload_n dX10_see_18 rfl (i := 2) (x := i1) rfl (e_i2l dX10_see_19 (e_lconst dX10_see_20 (i := 0) rfl (k8 rfl) (e_ldc2 dX10_see_21 ckX10_151 (k8 rfl) k)))) ?_
    refine ev_callS (As := [xL i1, xL 0, xL 31]) (st := []) (fun v4 => [xI (xz v4)]) dX10_see_24 mlX10_101 rfl rfl rfl rfl rfl rfl (c_X10_in (d := d + 1) i1 0 31) (fun _ => xz01 _) (fun _ => rfl) (fun v4 => ?_)
    refine ev_br2 (P := v4 = true) (pct := 30) (pcf := 40) (st' := []) (fun _ _ _ kt kf => e_ifeqz dX10_see_27 (tgt := 40) rfl kt kf) (fun h5 => ?_) (fun h5 => ?_)
    · refine ev_st (pc' := 34) (L' := [xR a, xI i0, xI i1, xI i2, xU]) (st' := [xL 1, xL 0, xL i2]) (fun _ _ _ k => e_iload_n dX10_see_30 rfl (i := 3) (x := i2) rfl (e_i2l dX10_see_31 (e_lconst dX10_see_32 (i := 0) rfl (k8 rfl) (e_lconst dX10_see_33 (i := 1) rfl (k8 rfl) k)))) ?_
      refine ev_callS (As := [xL i2, xL 0, xL 1]) (st := []) (fun v6 => [xI (xz v6)]) dX10_see_34 mlX10_101 rfl rfl rfl rfl rfl rfl (c_X10_in (d := d + 1) i2 0 1) (fun _ => xz01 _) (fun _ => rfl) (fun v6 => ?_)
      refine ev_br2 (P := v6 = true) (pct := 42) (pcf := 40) (st' := []) (fun _ _ _ kt kf => e_ifnez dX10_see_37 (tgt := 42) rfl kt kf) (fun h7 => ?_) (fun h7 => ?_)
      · refine ev_st (pc' := 51) (L' := [xR a, xI i0, xI i1, xI i2, xU]) (st' := [xI 8, xI (R (a + 1) 12)]) (fun _ _ _ k => e_aload_n dX10_see_42 rfl (i := 0) (x := a) rfl (e_getr dX10_see_43 flX10_7 (kd10_0 h_a) rfl (rf10_0_0 h_a) (e_bipush dX10_see_46 rfl (k4 rfl) (e_iald dX10_see_48 (kd10_1 h_a) (by decide) (by decide) (e_bipush dX10_see_49 rfl (k4 rfl) k))))) ?_
        refine ev_br2 (P := (R (a + 1) 12) = 8) (pct := 54) (pcf := 57) (st' := []) (fun _ _ _ kt kf => e_cne dX10_see_51 (tgt := 57) rfl kt kf) (fun h8 => ?_) (fun h8 => ?_)
        · exact ev_ret (e_bipush dX10_see_54 rfl (k4 rfl) (e_iret dX10_see_56))
        · refine ev_st (pc' := 58) (L' := [xR a, xI i0, xI i1, xI i2, xU]) (st' := [xR a]) (fun _ _ _ k => e_aload_n dX10_see_57 rfl (i := 0) (x := a) rfl k) ?_
          refine ev_callV (As := []) (st := []) (fun v9 => []) dX10_see_58 mlX10_139 (kd10_0 h_a) rfl rfl rfl rfl rfl rfl (c_X10_act (d := d) h_a) (fun _ => trivial) (fun _ => rfl) (fun v9 => ?_)
          refine ev_st (pc' := 73) (L' := [xR a, xI i0, xI i1, xI i2, xU]) (st' := [xI (w4 (13 + (w4 (3 * (v9 (a + 1) 12)))))]) (fun _ _ _ k => e_bipush dX10_see_61 rfl (k4 rfl) (e_iconst dX10_see_63 (k4 rfl) (e_aload_n dX10_see_64 rfl (i := 0) (x := a) rfl (e_getr dX10_see_65 flX10_7 (kd10_0 h_a) rfl (rf10_0_0 h_a) (e_bipush dX10_see_68 rfl (k4 rfl) (e_iald dX10_see_70 (kd10_1 h_a) (by decide) (by decide) (e_imul dX10_see_71 (e_iadd dX10_see_72 k)))))))) ?_
          refine ev_leti (fun x10 ex10 => ?_)
          refine ev_st (pc' := 75) (L' := [xR a, xI i0, xI i1, xI i2, xI x10]) (st' := []) (fun _ _ _ k => e_istore dX10_see_73 (i := 4) rfl (L' := [xR a, xI i0, xI i1, xI i2, xI x10]) rfl k) ?_
          refine ev_st (pc' := 82) (L' := [xR a, xI i0, xI i1, xI i2, xI x10]) (st' := [xI i0, xI x10, xR (a + 1)]) (fun _ _ _ k => e_aload_n dX10_see_75 rfl (i := 0) (x := a) rfl (e_getr dX10_see_76 flX10_7 (kd10_0 h_a) rfl (rf10_0_0 h_a) (e_iload dX10_see_79 (i := 4) (x := x10) rfl (e_iload_n dX10_see_81 rfl (i := 1) (x := i0) rfl k)))) ?_
          refine ev_chk (fun h11 => ?_)
          refine ev_st (pc' := 83) (L' := [xR a, xI i0, xI i1, xI i2, xI x10]) (st' := []) (fun _ _ _ k => e_iast dX10_see_82 (kd10_1 h_a) h11.1 h11.2 k) ?_
          refine ev_letR (fun R12 eR12 => ?_)
          refine ev_st (pc' := 92) (L' := [xR a, xI i0, xI i1, xI i2, xI x10]) (st' := [xI i1, xI (w4 (x10 + 1)), xR (a + 1)]) (fun _ _ _ k => e_aload_n dX10_see_83 rfl (i := 0) (x := a) rfl (e_getr dX10_see_84 flX10_7 (kd10_0 h_a) rfl (rf10_0_0 h_a) (e_iload dX10_see_87 (i := 4) (x := x10) rfl (e_iconst dX10_see_89 (k4 rfl) (e_iadd dX10_see_90 (e_iload_n dX10_see_91 rfl (i := 2) (x := i1) rfl k)))))) ?_
          refine ev_chk (fun h13 => ?_)
          refine ev_st (pc' := 93) (L' := [xR a, xI i0, xI i1, xI i2, xI x10]) (st' := []) (fun _ _ _ k => e_iast dX10_see_92 (kd10_1 h_a) h13.1 h13.2 k) ?_
          refine ev_letR (fun R14 eR14 => ?_)
          refine ev_st (pc' := 102) (L' := [xR a, xI i0, xI i1, xI i2, xI x10]) (st' := [xI i2, xI (w4 (x10 + 2)), xR (a + 1)]) (fun _ _ _ k => e_aload_n dX10_see_93 rfl (i := 0) (x := a) rfl (e_getr dX10_see_94 flX10_7 (kd10_0 h_a) rfl (rf10_0_0 h_a) (e_iload dX10_see_97 (i := 4) (x := x10) rfl (e_iconst dX10_see_99 (k4 rfl) (e_iadd dX10_see_100 (e_iload_n dX10_see_101 rfl (i := 3) (x := i2) rfl k)))))) ?_
          refine ev_chk (fun h15 => ?_)
          refine ev_st (pc' := 103) (L' := [xR a, xI i0, xI i1, xI i2, xI x10]) (st' := []) (fun _ _ _ k => e_iast dX10_see_102 (kd10_1 h_a) h15.1 h15.2 k) ?_
          refine ev_letR (fun R16 eR16 => ?_)
          refine ev_st (pc' := 114) (L' := [xR a, xI i0, xI i1, xI i2, xI x10]) (st' := []) (fun _ _ _ k => e_aload_n dX10_see_103 rfl (i := 0) (x := a) rfl (e_getr dX10_see_104 flX10_7 (kd10_0 h_a) rfl (rf10_0_0 h_a) (e_bipush dX10_see_107 rfl (k4 rfl) (e_dup2 dX10_see_109 (e_iald dX10_see_110 (kd10_1 h_a) (by decide) (by decide) (e_iconst dX10_see_111 (k4 rfl) (e_iadd dX10_see_112 (e_iast dX10_see_113 (kd10_1 h_a) (by decide) (by decide) k)))))))) ?_
          refine ev_letR (fun R17 eR17 => ?_)
          exact ev_ret (e_aload_n dX10_see_114 rfl (i := 0) (x := a) rfl (e_getr dX10_see_115 flX10_7 (kd10_0 h_a) rfl (rf10_0_0 h_a) (e_bipush dX10_see_118 rfl (k4 rfl) (e_iald dX10_see_120 (kd10_1 h_a) (by decide) (by decide) (e_iret dX10_see_121)))))
      · exact ev_ret (e_iconst dX10_see_40 (k4 rfl) (e_iret dX10_see_41))
    · exact ev_ret (e_iconst dX10_see_40 (k4 rfl) (e_iret dX10_see_41))
  · exact ev_ret (e_iconst dX10_see_40 (k4 rfl) (e_iret dX10_see_41))
def f_X10_forget (a : Nat) (R : xN) : Option (Int × xN) :=
  (f_X10_act a R).bind (fun v1 =>
  xlet (v1 (a + 1) 12) (fun x2 =>
  xlet (xup v1 (a + 1) 12 0) (fun R3 =>
  some (x2, R3))))
set_option maxRecDepth 20000 in
set_option maxHeartbeats 4000000 in
theorem c_X10_forget {l : Launch} {g : xG} {d : Nat} {A : xA} {R : xN} {a : Nat} (h_a : sh 10 A a)  : Ev l g (d + 2) mX10_forget 0 [xR a, xU] [] A R (fun v : Int × xN => some (xI v.1)) (fun v => v.2) (f_X10_forget a R) := by
  rw [f_X10_forget]
  refine ev_st (pc' := 1) (L' := [xR a, xU]) (st' := [xR a]) (fun _ _ _ k => e_aload_n dX10_forget_0 rfl (i := 0) (x := a) rfl k) ?_
  refine ev_callV (As := []) (st := []) (fun v1 => []) dX10_forget_1 mlX10_139 (kd10_0 h_a) rfl rfl rfl rfl rfl rfl (c_X10_act (d := d) h_a) (fun _ => trivial) (fun _ => rfl) (fun v1 => ?_)
  refine ev_st (pc' := 11) (L' := [xR a, xU]) (st' := [xI (v1 (a + 1) 12)]) (fun _ _ _ k => e_aload_n dX10_forget_4 rfl (i := 0) (x := a) rfl (e_getr dX10_forget_5 flX10_7 (kd10_0 h_a) rfl (rf10_0_0 h_a) (e_bipush dX10_forget_8 rfl (k4 rfl) (e_iald dX10_forget_10 (kd10_1 h_a) (by decide) (by decide) k)))) ?_
  refine ev_leti (fun x2 ex2 => ?_)
  refine ev_st (pc' := 12) (L' := [xR a, xI x2]) (st' := []) (fun _ _ _ k => e_istore_n dX10_forget_11 rfl (i := 1) rfl (L' := [xR a, xI x2]) rfl k) ?_
  refine ev_st (pc' := 20) (L' := [xR a, xI x2]) (st' := []) (fun _ _ _ k => e_aload_n dX10_forget_12 rfl (i := 0) (x := a) rfl (e_getr dX10_forget_13 flX10_7 (kd10_0 h_a) rfl (rf10_0_0 h_a) (e_bipush dX10_forget_16 rfl (k4 rfl) (e_iconst dX10_forget_18 (k4 rfl) (e_iast dX10_forget_19 (kd10_1 h_a) (by decide) (by decide) k))))) ?_
  refine ev_letR (fun R3 eR3 => ?_)
  exact ev_ret (e_iload_n dX10_forget_20 rfl (i := 1) (x := x2) rfl (e_iret dX10_forget_21))
