/-! The law, up to its loop. -/
set_option maxRecDepth 20000 in
theorem mcX9_init : xMc mX9_init 0 := ⟨wG_t 24 (by decide +kernel) (by decide +kernel), wG_t 1 (by decide +kernel) (by decide +kernel), ⟨by decide +kernel, by decide +kernel, by decide +kernel⟩, by decide +kernel, rfl⟩
set_option maxRecDepth 20000 in
theorem mlL_9 : xMI RL 9 mX9_init 0 := ⟨mcX9_init, wG_t 22 (by decide +kernel) (by decide +kernel), wG_t 23 (by decide +kernel) (by decide +kernel), rfl, rfl⟩
set_option maxRecDepth 20000 in
theorem mcX10_init : xMc mX10_init 0 := ⟨wG_t 1079 (by decide +kernel) (by decide +kernel), wG_t 12 (by decide +kernel) (by decide +kernel), ⟨by decide +kernel, by decide +kernel, by decide +kernel⟩, by decide +kernel, rfl⟩
set_option maxRecDepth 20000 in
theorem mlL_12 : xMI RL 12 mX10_init 0 := ⟨mcX10_init, wG_t 1077 (by decide +kernel) (by decide +kernel), wG_t 1078 (by decide +kernel) (by decide +kernel), rfl, rfl⟩
set_option maxRecDepth 20000 in
theorem cv_20 : Cond.classLink RL 7 RX9 ∈ wG := wG_t 20 (by decide +kernel) (by decide +kernel)
set_option maxRecDepth 20000 in
theorem cv_1075 : Cond.classLink RL 10 RX10 ∈ wG := wG_t 1075 (by decide +kernel) (by decide +kernel)
set_option maxRecDepth 20000 in
theorem cv_21 : Cond.instantiable RX9 9 ∈ wG := wG_t 21 (by decide +kernel) (by decide +kernel)
set_option maxRecDepth 20000 in
theorem cv_1076 : Cond.instantiable RX10 31 ∈ wG := wG_t 1076 (by decide +kernel) (by decide +kernel)
set_option maxRecDepth 20000 in
theorem cv_1 : Cond.initialized RX9 ∈ wG := wG_t 1 (by decide +kernel) (by decide +kernel)
set_option maxRecDepth 20000 in
theorem cv_12 : Cond.initialized RX10 ∈ wG := wG_t 12 (by decide +kernel) (by decide +kernel)
def xlA1 : List (Nat × Nat) := xkX ++ [(0, 10)]
def xlA : List (Nat × Nat) := xkX ++ xkM
def xrA : List (Nat × Nat × Nat) := xrv10.map (sft 323) ++ xrv9
def xA9 : xA := mk [] [] 0 xlA xrA 8212
def xR0 : xN := fun _ _ => 0
theorem xi9_mono {R R' : xN} {d : Nat} (h : ∀ q, d ≤ q → q < d + 323 → R' q = R q) (h0 : xi9 R d) : xi9 R' d := ⟨xi8_mono (fun q h1 h2 => h q (by omega) (by omega)) h0.1, xi1_mono (fun q h1 h2 => h q (by omega) (by omega)) h0.2.1, by rw [h d (by omega) (by omega)]; exact h0.2.2⟩
set_option maxRecDepth 100000 in
set_option maxHeartbeats 4000000 in
theorem q_law0 {l : Launch} {g : xG} {d : Nat} {nm : String} : ∃ R1 : xN, xi9 R1 0 ∧ xi10 R1 323 ∧ ∀ r A' R', Ex l g (d + 10) (mL_law nm) 18 [xS 300, xR 0, xR 323, xI 0] [] xA9 R1 r A' R' → Ex l g (d + 10) (mL_law nm) 0 [xS 300, xU, xU, xU] [] (mk [] [] 0 [] [] 0) xR0 r A' R' := by
  obtain ⟨R1, ex1, f1, i1⟩ := q_X9_init (l := l) (g := g) (d := d + 3) (K0 := []) (R0 := []) (s0 := 0) (b := 0) (R := xzero xR0 0) rfl (by decide) (xin_d rfl) xzero_at
  obtain ⟨R2, ex2, f2, i2⟩ := xq_nest2 (l := l) (g := g) (d := d + 9) (K0 := []) (R0 := []) (s0 := 0) (L4 := xlA) (r4 := xrA) (s5 := 8212) (L3 := xlA1) (Lk := xkX) (rl := xrv9) (s := 4621) (s4 := 4652) (Lk1 := [(0, 10)]) (s2 := 31) (b := 323) (R := xzero R1 323) (q_X10_init (l := l) (g := g) (d := d + 7) (K0 := [] ++ xkX) (b := 323) (by decide +kernel) (xin_d (by decide +kernel)) xzero_at) rfl rfl (by decide +kernel) rfl (by decide +kernel) rfl
  refine ⟨R2, xi9_mono (fun q h1 h2 => ?_) i1, i2, fun r A' R' k => ?_⟩
  · rw [f2 q (by omega)]
    unfold xzero
    rw [if_neg (by omega)]
  refine e_new_m (K0 := []) (R0 := []) (s0 := 0) (Lk := []) (rl := []) (s := 0) (ci := 9) (j := 0) (s2 := 9) (L2 := [(0, 9)]) dL_law_0 (by decide) (by decide +kernel) cv_20 cv_21 cv_1 (xin_d rfl) rfl rfl rfl rfl ?_
  refine e_dupR dL_law_3 ?_
  refine e_callI (d := d + 9) (b := 0) (As := []) (st := [xR 0]) dL_law_4 mlL_9 rfl rfl rfl rfl rfl rfl ex1 ?_
  refine e_astore_n dL_law_7 (i := 1) rfl rfl (L' := [xS 300, xR 0, xU, xU]) rfl ?_
  refine e_new_m (K0 := []) (R0 := []) (s0 := 0) (Lk := xkX) (rl := xrv9) (s := 4621) (ci := 10) (j := 323) (s2 := 4652) (L2 := xlA1) dL_law_8 (by decide) (by decide +kernel) cv_1075 cv_1076 cv_12 (xin_d rfl) (by decide +kernel) rfl (by decide +kernel) rfl ?_
  refine e_dupR dL_law_11 ?_
  refine e_callI (d := d + 9) (b := 323) (As := []) (st := [xR 323]) dL_law_12 mlL_12 rfl rfl rfl rfl rfl rfl ex2 ?_
  refine e_astore_n dL_law_15 (i := 2) rfl rfl (L' := [xS 300, xR 0, xR 323, xU]) rfl ?_
  refine e_iconst dL_law_16 (k4 rfl) ?_
  exact e_istore_n dL_law_17 rfl (i := 3) rfl (L' := [xS 300, xR 0, xR 323, xI 0]) rfl k
theorem xA9_top : xA9.2.2.1 = 340 ∧ xA9.2.2.2 = 8212 := by decide +kernel
set_option maxRecDepth 100000 in
theorem xA9_sh9 : sh 9 xA9 0 := mk_sh (K0 := []) (ci := 9) (off := 0) (by decide +kernel) (by decide +kernel)
set_option maxRecDepth 100000 in
theorem xA9_sh10 : sh 10 xA9 323 := by
  have h := mk_sh (K0 := []) (R0 := []) (s0 := 0) (L := xlA) (rl := xrA) (s := 8212) (ci := 10) (off := 323) (by decide +kernel) (by decide +kernel)
  rwa [show (([] : List (Nat × Nat)).length + 323) = 323 from rfl] at h
