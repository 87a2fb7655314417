/-! The law, up to where its object is made. -/
set_option maxRecDepth 20000 in
theorem mcX9_init : xMc mX9_init 0 := ⟨wG_t 19 (by decide +kernel) (by decide +kernel), wG_t 1 (by decide +kernel) (by decide +kernel), ⟨by decide +kernel, by decide +kernel, by decide +kernel⟩, by decide +kernel, rfl⟩
set_option maxRecDepth 20000 in
theorem mlL_77 : xMI RL 77 mX9_init 0 := ⟨mcX9_init, wG_t 17 (by decide +kernel) (by decide +kernel), wG_t 18 (by decide +kernel) (by decide +kernel), rfl, rfl⟩
set_option maxRecDepth 20000 in
theorem cv_15 : Cond.classLink RL 10 RX9 ∈ wG := wG_t 15 (by decide +kernel) (by decide +kernel)
set_option maxRecDepth 20000 in
theorem cv_16 : Cond.instantiable RX9 9 ∈ wG := wG_t 16 (by decide +kernel) (by decide +kernel)
set_option maxRecDepth 20000 in
theorem cv_1 : Cond.initialized RX9 ∈ wG := wG_t 1 (by decide +kernel) (by decide +kernel)
def xA9 : xA := mk [] [] 0 xkX xrv9 4621
def xR0 : xN := fun _ _ => 0
set_option maxRecDepth 100000 in
set_option maxHeartbeats 4000000 in
theorem q_law0 {l : Launch} {g : xG} {d : Nat} {nm : String} : ∃ R1 : xN, xi9 R1 0 ∧ ∀ r A' R', Ex l g (d + 8) (mL_law nm) 8 [xS 300, xR 0, xU, xU, xU, xU, xU, xU, xU, xU, xU, xU] [] xA9 R1 r A' R' → Ex l g (d + 8) (mL_law nm) 0 [xS 300, xU, xU, xU, xU, xU, xU, xU, xU, xU, xU, xU] [] (mk [] [] 0 [] [] 0) xR0 r A' R' := by
  obtain ⟨R1, ex1, f1, i1⟩ := q_X9_init (l := l) (g := g) (d := d + 1) (K0 := []) (R0 := []) (s0 := 0) (b := 0) (R := xzero xR0 0) rfl (by decide) (xin_d rfl) xzero_at
  refine ⟨R1, i1, fun r A' R' k => ?_⟩
  refine e_new_m (K0 := []) (R0 := []) (s0 := 0) (Lk := []) (rl := []) (s := 0) (ci := 9) (j := 0) (s2 := 9) (L2 := [(0, 9)]) dL_law_0 (by decide) (by decide +kernel) cv_15 cv_16 cv_1 (xin_d rfl) rfl rfl rfl rfl ?_
  refine e_dupR dL_law_3 ?_
  refine e_callI (d := d + 7) (b := 0) (As := []) (st := [xR 0]) dL_law_4 mlL_77 rfl rfl rfl rfl rfl rfl ex1 ?_
  exact e_astore_n dL_law_7 (i := 1) rfl rfl (L' := [xS 300, xR 0, xU, xU, xU, xU, xU, xU, xU, xU, xU, xU]) rfl k
theorem xA9_top : xA9.2.2.1 = 323 ∧ xA9.2.2.2 = 4621 := by decide +kernel
set_option maxRecDepth 100000 in
theorem xA9_sh9 : sh 9 xA9 0 := mk_sh (K0 := []) (ci := 9) (off := 0) (by decide +kernel) (by decide +kernel)
