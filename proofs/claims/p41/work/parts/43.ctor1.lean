/-! The constructors of the parts. -/
def xi5 (_ : xN) (_ : Nat) : Prop := True
def xi7 (R : xN) (a : Nat) : Prop := R a 3 = 0
def xi4 (R : xN) (a : Nat) : Prop := R a 1 = 0
def xrv5 : List (Nat × Nat × Nat) := [(0, 3, 2), (0, 2, 1)]
set_option maxRecDepth 100000 in
set_option maxHeartbeats 4000000 in
theorem q_X5_init {l : Launch} {g : xG} {d : Nat} {K0 : List (Nat × Nat)} {R0 : List (Nat × Nat × Nat)} {s0 b : Nat} {R : xN} (hb : K0.length = b) (hR0 : xin R0 K0.length) (hR : R b = fun _ => 0) : Xq l g (d + 1) mX5_init 0 [xR b] [] (mk K0 R0 s0 [(0, 5)] [] 4) R (mk K0 R0 s0 xkP xrv5 68) (fun R' => (∀ q, q < b → R' q = R q) ∧ xi5 R' b) := by
  subst hb
  refine xq_st (pc' := 30) (L' := [xR K0.length]) (st' := []) (fun _ k => e_aload_n dX5_init_0 rfl (i := 0) (x := K0.length) rfl (e_obj (d := d + 0) dX5_init_1 cv_40 cv_21 cv_22 rfl (e_aload_n dX5_init_4 rfl (i := 0) (x := K0.length) rfl (e_iconst dX5_init_5 (k4 rfl) (e_puti dX5_init_6 flX5_9 (mk_kd0 rfl rfl) (Or.inl rfl) rfl (e_aload_n dX5_init_9 rfl (i := 0) (x := K0.length) rfl (e_iconst dX5_init_10 (k4 rfl) (e_puti dX5_init_11 flX5_15 (mk_kd0 rfl rfl) (Or.inl rfl) rfl (e_aload_n dX5_init_14 rfl (i := 0) (x := K0.length) rfl (e_bipush dX5_init_15 rfl (k4 rfl) (e_newa_m (j := 1) (s2 := 36) (L2 := [(0, 5), (1, 32)]) dX5_init_17 cv_58 (by decide) (by decide) hR0 (by decide +kernel) (by rfl) (by rfl) (by rfl) (e_putr_m (j := 0) (o := 1) dX5_init_19 flX5_18 (mk_kd0 rfl rfl) (Or.inr ⟨rfl, rfl⟩) rfl rfl rfl (e_aload_n dX5_init_22 rfl (i := 0) (x := K0.length) rfl (e_bipush dX5_init_23 rfl (k4 rfl) (e_newa_m (j := 2) (s2 := 68) (L2 := [(0, 5), (1, 32), (1, 32)]) dX5_init_25 cv_58 (by decide) (by decide) hR0 (by decide +kernel) (by rfl) (by rfl) (by rfl) (e_putr_m (j := 0) (o := 2) dX5_init_27 flX5_22 (mk_kd0 rfl rfl) (Or.inr ⟨rfl, rfl⟩) rfl rfl rfl k)))))))))))))))) ?_
  exact xq_end (e_vret dX5_init_30) ⟨fun q hq => by
    have n0 : q ≠ K0.length := by omega
    have n1 : q ≠ K0.length + 1 := by omega
    have n2 : q ≠ K0.length + 2 := by omega
    simp [xzero, xup, n0, n1, n2], trivial⟩
def xrv3 : List (Nat × Nat × Nat) := [(0, 7, 2), (0, 6, 1)]
set_option maxRecDepth 100000 in
set_option maxHeartbeats 4000000 in
theorem q_X3_init {l : Launch} {g : xG} {d : Nat} {K0 : List (Nat × Nat)} {R0 : List (Nat × Nat × Nat)} {s0 b : Nat} {R : xN} (hb : K0.length = b) (hR0 : xin R0 K0.length) (hR : R b = fun _ => 0) : Xq l g (d + 1) mX3_init 0 [xR b] [] (mk K0 R0 s0 [(0, 3)] [] 8) R (mk K0 R0 s0 xkL xrv3 40) (fun R' => (∀ q, q < b → R' q = R q) ∧ xi5 R' b) := by
  subst hb
  refine xq_st (pc' := 50) (L' := [xR K0.length]) (st' := []) (fun _ k => e_aload_n dX3_init_0 rfl (i := 0) (x := K0.length) rfl (e_obj (d := d + 0) dX3_init_1 cv_64 cv_21 cv_22 rfl (e_aload_n dX3_init_4 rfl (i := 0) (x := K0.length) rfl (e_iconst dX3_init_5 (k4 rfl) (e_puti dX3_init_6 flX3_9 (mk_kd0 rfl rfl) (Or.inl rfl) rfl (e_aload_n dX3_init_9 rfl (i := 0) (x := K0.length) rfl (e_iconst dX3_init_10 (k4 rfl) (e_puti dX3_init_11 flX3_15 (mk_kd0 rfl rfl) (Or.inl rfl) rfl (e_aload_n dX3_init_14 rfl (i := 0) (x := K0.length) rfl (e_iconst dX3_init_15 (k4 rfl) (e_puti dX3_init_16 flX3_18 (mk_kd0 rfl rfl) (Or.inl rfl) rfl (e_aload_n dX3_init_19 rfl (i := 0) (x := K0.length) rfl (e_iconst dX3_init_20 (k4 rfl) (e_puti dX3_init_21 flX3_21 (mk_kd0 rfl rfl) (Or.inl rfl) rfl (e_aload_n dX3_init_24 rfl (i := 0) (x := K0.length) rfl (e_iconst dX3_init_25 (k4 rfl) (e_puti dX3_init_26 flX3_24 (mk_kd0 rfl rfl) (Or.inl rfl) rfl (e_aload_n dX3_init_29 rfl (i := 0) (x := K0.length) rfl (e_iconst dX3_init_30 (k4 rfl) (e_puti dX3_init_31 flX3_27 (mk_kd0 rfl rfl) (Or.inl rfl) rfl (e_aload_n dX3_init_34 rfl (i := 0) (x := K0.length) rfl (e_bipush dX3_init_35 rfl (k4 rfl) (e_newa_m (j := 1) (s2 := 24) (L2 := [(0, 3), (1, 16)]) dX3_init_37 cv_58 (by decide) (by decide) hR0 (by decide +kernel) (by rfl) (by rfl) (by rfl) (e_putr_m (j := 0) (o := 1) dX3_init_39 flX3_30 (mk_kd0 rfl rfl) (Or.inr ⟨rfl, rfl⟩) rfl rfl rfl (e_aload_n dX3_init_42 rfl (i := 0) (x := K0.length) rfl (e_bipush dX3_init_43 rfl (k4 rfl) (e_newa_m (j := 2) (s2 := 40) (L2 := [(0, 3), (1, 16), (1, 16)]) dX3_init_45 cv_58 (by decide) (by decide) hR0 (by decide +kernel) (by rfl) (by rfl) (by rfl) (e_putr_m (j := 0) (o := 2) dX3_init_47 flX3_34 (mk_kd0 rfl rfl) (Or.inr ⟨rfl, rfl⟩) rfl rfl rfl k)))))))))))))))))))))))))))) ?_
  exact xq_end (e_vret dX3_init_50) ⟨fun q hq => by
    have n0 : q ≠ K0.length := by omega
    have n1 : q ≠ K0.length + 1 := by omega
    have n2 : q ≠ K0.length + 2 := by omega
    simp [xzero, xup, n0, n1, n2], trivial⟩
def xrv7 : List (Nat × Nat × Nat) := [(0, 2, 3), (0, 1, 2), (0, 0, 1)]
set_option maxRecDepth 100000 in
set_option maxHeartbeats 4000000 in
theorem q_X7_init {l : Launch} {g : xG} {d : Nat} {K0 : List (Nat × Nat)} {R0 : List (Nat × Nat × Nat)} {s0 b : Nat} {R : xN} (hb : K0.length = b) (hR0 : xin R0 K0.length) (hR : R b = fun _ => 0) : Xq l g (d + 1) mX7_init 0 [xR b] [] (mk K0 R0 s0 [(0, 7)] [] 4) R (mk K0 R0 s0 xkG xrv7 28) (fun R' => (∀ q, q < b → R' q = R q) ∧ xi7 R' b) := by
  subst hb
  refine xq_st (pc' := 33) (L' := [xR K0.length]) (st' := []) (fun _ k => e_aload_n dX7_init_0 rfl (i := 0) (x := K0.length) rfl (e_obj (d := d + 0) dX7_init_1 cv_100 cv_21 cv_22 rfl (e_aload_n dX7_init_4 rfl (i := 0) (x := K0.length) rfl (e_bipush dX7_init_5 rfl (k4 rfl) (e_newa_m (j := 1) (s2 := 12) (L2 := [(0, 7), (1, 8)]) dX7_init_7 cv_58 (by decide) (by decide) hR0 (by decide +kernel) (by rfl) (by rfl) (by rfl) (e_putr_m (j := 0) (o := 1) dX7_init_9 flX7_9 (mk_kd0 rfl rfl) (Or.inr ⟨rfl, rfl⟩) rfl rfl rfl (e_aload_n dX7_init_12 rfl (i := 0) (x := K0.length) rfl (e_bipush dX7_init_13 rfl (k4 rfl) (e_newa_m (j := 2) (s2 := 20) (L2 := [(0, 7), (1, 8), (1, 8)]) dX7_init_15 cv_58 (by decide) (by decide) hR0 (by decide +kernel) (by rfl) (by rfl) (by rfl) (e_putr_m (j := 0) (o := 2) dX7_init_17 flX7_15 (mk_kd0 rfl rfl) (Or.inr ⟨rfl, rfl⟩) rfl rfl rfl (e_aload_n dX7_init_20 rfl (i := 0) (x := K0.length) rfl (e_bipush dX7_init_21 rfl (k4 rfl) (e_newa_m (j := 3) (s2 := 28) (L2 := [(0, 7), (1, 8), (1, 8), (1, 8)]) dX7_init_23 cv_58 (by decide) (by decide) hR0 (by decide +kernel) (by rfl) (by rfl) (by rfl) (e_putr_m (j := 0) (o := 3) dX7_init_25 flX7_18 (mk_kd0 rfl rfl) (Or.inr ⟨rfl, rfl⟩) rfl rfl rfl (e_aload_n dX7_init_28 rfl (i := 0) (x := K0.length) rfl (e_iconst dX7_init_29 (k4 rfl) (e_puti dX7_init_30 flX7_21 (mk_kd0 rfl rfl) (Or.inl rfl) rfl k))))))))))))))))) ?_
  exact xq_end (e_vret dX7_init_33) ⟨fun q hq => by
    have n0 : q ≠ K0.length := by omega
    have n1 : q ≠ K0.length + 1 := by omega
    have n2 : q ≠ K0.length + 2 := by omega
    have n3 : q ≠ K0.length + 3 := by omega
    simp [xzero, xup, n0, n1, n2, n3], by show _ = _; simp [xzero, xup]⟩
def xrv4 : List (Nat × Nat × Nat) := [(0, 0, 1)]
set_option maxRecDepth 100000 in
set_option maxHeartbeats 4000000 in
theorem q_X4_init {l : Launch} {g : xG} {d : Nat} {K0 : List (Nat × Nat)} {R0 : List (Nat × Nat × Nat)} {s0 b : Nat} {R : xN} (hb : K0.length = b) (hR0 : xin R0 K0.length) (hR : R b = fun _ => 0) : Xq l g (d + 1) mX4_init 0 [xR b] [] (mk K0 R0 s0 [(0, 4)] [] 2) R (mk K0 R0 s0 xkN xrv4 50) (fun R' => (∀ q, q < b → R' q = R q) ∧ xi4 R' b) := by
  subst hb
  refine xq_st (pc' := 17) (L' := [xR K0.length]) (st' := []) (fun _ k => e_aload_n dX4_init_0 rfl (i := 0) (x := K0.length) rfl (e_obj (d := d + 0) dX4_init_1 cv_124 cv_21 cv_22 rfl (e_aload_n dX4_init_4 rfl (i := 0) (x := K0.length) rfl (e_bipush dX4_init_5 rfl (k4 rfl) (e_newa_m (j := 1) (s2 := 50) (L2 := [(0, 4), (1, 48)]) dX4_init_7 cv_58 (by decide) (by decide) hR0 (by decide +kernel) (by rfl) (by rfl) (by rfl) (e_putr_m (j := 0) (o := 1) dX4_init_9 flX4_11 (mk_kd0 rfl rfl) (Or.inr ⟨rfl, rfl⟩) rfl rfl rfl (e_aload_n dX4_init_12 rfl (i := 0) (x := K0.length) rfl (e_iconst dX4_init_13 (k4 rfl) (e_puti dX4_init_14 flX4_15 (mk_kd0 rfl rfl) (Or.inl rfl) rfl k))))))))) ?_
  exact xq_end (e_vret dX4_init_17) ⟨fun q hq => by
    have n0 : q ≠ K0.length := by omega
    have n1 : q ≠ K0.length + 1 := by omega
    simp [xzero, xup, n0, n1], by show _ = _; simp [xzero, xup]⟩
def xrv2 : List (Nat × Nat × Nat) := [(0, 4, 4), (0, 2, 3), (0, 1, 2), (0, 0, 1)]
set_option maxRecDepth 100000 in
set_option maxHeartbeats 4000000 in
theorem q_X2_init {l : Launch} {g : xG} {d : Nat} {K0 : List (Nat × Nat)} {R0 : List (Nat × Nat × Nat)} {s0 b : Nat} {R : xN} (hb : K0.length = b) (hR0 : xin R0 K0.length) (hR : R b = fun _ => 0) : Xq l g (d + 1) mX2_init 0 [xR b] [] (mk K0 R0 s0 [(0, 2)] [] 7) R (mk K0 R0 s0 xkY xrv2 81) (fun R' => (∀ q, q < b → R' q = R q) ∧ xi5 R' b) := by
  subst hb
  refine xq_st (pc' := 51) (L' := [xR K0.length]) (st' := []) (fun _ k => e_aload_n dX2_init_0 rfl (i := 0) (x := K0.length) rfl (e_obj (d := d + 0) dX2_init_1 cv_229 cv_21 cv_22 rfl (e_aload_n dX2_init_4 rfl (i := 0) (x := K0.length) rfl (e_bipush dX2_init_5 rfl (k4 rfl) (e_newa_m (j := 1) (s2 := 19) (L2 := [(0, 2), (1, 12)]) dX2_init_7 cv_58 (by decide) (by decide) hR0 (by decide +kernel) (by rfl) (by rfl) (by rfl) (e_putr_m (j := 0) (o := 1) dX2_init_9 flX2_9 (mk_kd0 rfl rfl) (Or.inr ⟨rfl, rfl⟩) rfl rfl rfl (e_aload_n dX2_init_12 rfl (i := 0) (x := K0.length) rfl (e_bipush dX2_init_13 rfl (k4 rfl) (e_newa_m (j := 2) (s2 := 31) (L2 := [(0, 2), (1, 12), (1, 12)]) dX2_init_15 cv_58 (by decide) (by decide) hR0 (by decide +kernel) (by rfl) (by rfl) (by rfl) (e_putr_m (j := 0) (o := 2) dX2_init_17 flX2_15 (mk_kd0 rfl rfl) (Or.inr ⟨rfl, rfl⟩) rfl rfl rfl (e_aload_n dX2_init_20 rfl (i := 0) (x := K0.length) rfl (e_bipush dX2_init_21 rfl (k4 rfl) (e_newa_m (j := 3) (s2 := 63) (L2 := [(0, 2), (1, 12), (1, 12), (1, 32)]) dX2_init_23 cv_58 (by decide) (by decide) hR0 (by decide +kernel) (by rfl) (by rfl) (by rfl) (e_putr_m (j := 0) (o := 3) dX2_init_25 flX2_18 (mk_kd0 rfl rfl) (Or.inr ⟨rfl, rfl⟩) rfl rfl rfl (e_aload_n dX2_init_28 rfl (i := 0) (x := K0.length) rfl (e_iconst dX2_init_29 (k4 rfl) (e_puti dX2_init_30 flX2_21 (mk_kd0 rfl rfl) (Or.inl rfl) rfl (e_aload_n dX2_init_33 rfl (i := 0) (x := K0.length) rfl (e_bipush dX2_init_34 rfl (k4 rfl) (e_newa_m (j := 4) (s2 := 81) (L2 := [(0, 2), (1, 12), (1, 12), (1, 32), (1, 18)]) dX2_init_36 cv_58 (by decide) (by decide) hR0 (by decide +kernel) (by rfl) (by rfl) (by rfl) (e_putr_m (j := 0) (o := 4) dX2_init_38 flX2_25 (mk_kd0 rfl rfl) (Or.inr ⟨rfl, rfl⟩) rfl rfl rfl (e_aload_n dX2_init_41 rfl (i := 0) (x := K0.length) rfl (e_iconst dX2_init_42 (k4 rfl) (e_puti dX2_init_43 flX2_28 (mk_kd0 rfl rfl) (Or.inl rfl) rfl (e_aload_n dX2_init_46 rfl (i := 0) (x := K0.length) rfl (e_iconst dX2_init_47 (k4 rfl) (e_puti dX2_init_48 flX2_31 (mk_kd0 rfl rfl) (Or.inl rfl) rfl k))))))))))))))))))))))))))) ?_
  exact xq_end (e_vret dX2_init_51) ⟨fun q hq => by
    have n0 : q ≠ K0.length := by omega
    have n1 : q ≠ K0.length + 1 := by omega
    have n2 : q ≠ K0.length + 2 := by omega
    have n3 : q ≠ K0.length + 3 := by omega
    have n4 : q ≠ K0.length + 4 := by omega
    simp [xzero, xup, n0, n1, n2, n3, n4], trivial⟩
def xrv6 : List (Nat × Nat × Nat) := [(0, 0, 1)]
set_option maxRecDepth 100000 in
set_option maxHeartbeats 4000000 in
theorem q_X6_init {l : Launch} {g : xG} {d : Nat} {K0 : List (Nat × Nat)} {R0 : List (Nat × Nat × Nat)} {s0 b : Nat} {R : xN} (hb : K0.length = b) (hR0 : xin R0 K0.length) (hR : R b = fun _ => 0) : Xq l g (d + 1) mX6_init 0 [xR b] [] (mk K0 R0 s0 [(0, 6)] [] 4) R (mk K0 R0 s0 xkR xrv6 124) (fun R' => (∀ q, q < b → R' q = R q) ∧ xi5 R' b) := by
  subst hb
  refine xq_st (pc' := 27) (L' := [xR K0.length]) (st' := []) (fun _ k => e_aload_n dX6_init_0 rfl (i := 0) (x := K0.length) rfl (e_obj (d := d + 0) dX6_init_1 cv_257 cv_21 cv_22 rfl (e_aload_n dX6_init_4 rfl (i := 0) (x := K0.length) rfl (e_bipush dX6_init_5 rfl (k4 rfl) (e_newa_m (j := 1) (s2 := 124) (L2 := [(0, 6), (1, 120)]) dX6_init_7 cv_58 (by decide) (by decide) hR0 (by decide +kernel) (by rfl) (by rfl) (by rfl) (e_putr_m (j := 0) (o := 1) dX6_init_9 flX6_9 (mk_kd0 rfl rfl) (Or.inr ⟨rfl, rfl⟩) rfl rfl rfl (e_aload_n dX6_init_12 rfl (i := 0) (x := K0.length) rfl (e_iconst dX6_init_13 (k4 rfl) (e_puti dX6_init_14 flX6_15 (mk_kd0 rfl rfl) (Or.inl rfl) rfl (e_aload_n dX6_init_17 rfl (i := 0) (x := K0.length) rfl (e_iconst dX6_init_18 (k4 rfl) (e_puti dX6_init_19 flX6_19 (mk_kd0 rfl rfl) (Or.inl rfl) rfl (e_aload_n dX6_init_22 rfl (i := 0) (x := K0.length) rfl (e_iconst dX6_init_23 (k4 rfl) (e_puti dX6_init_24 flX6_22 (mk_kd0 rfl rfl) (Or.inl rfl) rfl k))))))))))))))) ?_
  exact xq_end (e_vret dX6_init_27) ⟨fun q hq => by
    have n0 : q ≠ K0.length := by omega
    have n1 : q ≠ K0.length + 1 := by omega
    simp [xzero, xup, n0, n1], trivial⟩
