/-! Looking: count, side, layer, effort. -/
/-- nothing but what is of no matter behind a call -/
def kSc (R R' : xN) : Prop := ∀ q j : Nat, ¬ (311 ≤ q ∧ q < 319) → ¬ (q = 323 ∧ j ≠ 3 ∧ j ≠ 4 ∧ j ≠ 6) → ¬ (328 ≤ q) → R' q j = R q j
theorem kSc.trans {R R1 R2 : xN} (h : kSc R R1) (g : kSc R1 R2) : kSc R R2 := fun q j h1 h2 h3 => by rw [g q j h1 h2 h3, h q j h1 h2 h3]
theorem kLay.sc {R R' : xN} (h : kLay R R') : kSc R R' := fun q j h1 h2 h3 => h q j (by omega) (by omega)
theorem Inv.sc {R R' : xN} (hI : Inv R) (h : kSc R R') : Inv R' := by
  obtain ⟨i1, i2, i3, i4, i5, i6⟩ := hI
  have lo : ∀ q j : Nat, q < 311 → R' q j = R q j := fun q j hq => h q j (by omega) (by omega) (by omega)
  have h324 : R' 324 = R 324 := funext fun j => h 324 j (by omega) (by omega) (by omega)
  refine ⟨?_, i2.of (lo 45 1 (by omega)) (fun k _ => lo 46 k (by omega)), i3.of (lo 0 5 (by omega)) (h 323 4 (by omega) (by omega) (by omega)) (fun j => h 319 j (by omega) (by omega) (by omega)) (fun j => h 327 j (by omega) (by omega) (by omega)), ?_, ?_, fun k hk => ?_⟩
  · rw [h324]; exact i1.out (fun q j h1 h2 => lo q j (by omega))
  · rw [h 323 6 (by omega) (by omega) (by omega)]; exact i4
  · rw [h 323 3 (by omega) (by omega) (by omega), lo 45 1 (by omega)]; exact i5
  · rw [lo 45 1 (by omega)] at hk
    have h325 : (fun j => R' 325 (464 * k + j)) = fun j => R 325 (464 * k + j) := funext fun j => h 325 _ (by omega) (by omega) (by omega)
    rw [h325, lo 46 k (by omega)]
    obtain ⟨ik, hik, hek⟩ := i2.2.2.1 k (by have := i2.2.1; omega)
    have := i6 k hk
    rw [hek, Int.toNat_natCast] at this ⊢
    exact this.out (fun q j h1 h2 => lo q j (by omega))
theorem lb_of {R : xN} {b H W fn : Nat} {g : gG} (hw : GWg H W g) (l : LRg R b H W g fn) (hb : g.1 = 1 ∧ g.2.1 = 1) : LB R b H W g.2.2.2 := by
  have hA := area_le hw.1 hw.2.1
  have ht := hw.2.2.2.2.2.2
  refine ⟨⟨hA, fun i hi => ⟨(ht i hi).1, l.2.2.2.2.2.2 i hi⟩, ?_⟩, fun i hi => (ht i hi).2⟩
  rw [dep9 l hw, (book_iff hw).mpr hb]
theorem lm_of {R : xN} {H W : Nat} {g : gG} (hw : GWg H W g) (h1 : R 324 1 = (W : Int)) (M : MRg R H W g) (hb : g.1 = 1 ∧ g.2.1 = 1) : LM R W (H * W) g.2.2.2 := by
  have hA := area_le hw.1 hw.2.1
  have ht := hw.2.2.2.2.2.2
  refine ⟨hA, len_mem hw.2.1, h1, ?_, fun i hi => ?_⟩
  · rw [M.2.2.1, (book_iff hw).mpr hb]
  · obtain ⟨m1, m2, m3, m4⟩ := M.2.2.2 i hi
    exact ⟨(ht i hi).1, (ht i hi).2.2, m1, m2, m3, m4⟩
theorem pr_of {R : xN} {s : Nat → Int} {H W : Nat} {g : gG} (w : SW s H W g) (r : DR R 2 s H W g) : PR R s H W := by
  obtain ⟨k1, k2, k3, k4, k5, k6, k7, k8, k9, k10, k11, k12, k13, k14, k15, k16, k17⟩ := w
  obtain ⟨r1, r2, r3, r4, r5, r6, r7, r8, r9, r10, r11, r12, r13, r14⟩ := r
  have hA := area_le k1 k2
  exact ⟨k1, k2, r5, fun k hk => ⟨r3 k hk, (k17 k (by omega)).1⟩⟩
theorem gfn_ge : ∀ {fs : List Nat} {n : Nat}, n ≤ gfn n fs := by
  intro fs
  induction fs with
  | nil => intro n; exact Nat.le_refl _
  | cons f fs ih =>
    intro n
    have := ih (n := n * 10 + f)
    show n ≤ gfn (n * 10 + f) fs
    omega
theorem fnow_lp {R : xN} {c : Nat} {X : Int → Int → Option Int} (hc : R 324 2 = (c : Int)) (hc4 : c ≤ 4) : ∀ (m k v : Nat) (fs : List Nat), k + fs.length = c → fs.length < m → (∀ i : Nat, i < fs.length → R 324 (3 + (k + i)) = (fs.getD i 0 : Nat)) → gfn v fs < 100000 → lp_X10_foldsNow_4 323 R m (v : Int) (k : Int) X = X (gfn v fs : Int) (c : Int) := by
  intro m
  induction m with
  | zero => intro k v fs _ h; exact absurd h (Nat.not_lt_zero _)
  | succ m ih =>
    intro k v fs hk hm hs hb
    cases fs with
    | nil =>
      have hk' : k = c := hk
      rw [lp_X10_foldsNow_4, show 323 + 1 = 324 from rfl, hc, if_pos (by omega), hk']
      rfl
    | cons f fs =>
      have hl : (f :: fs).length = fs.length + 1 := rfl
      have hf : R 324 (3 + k) = (f : Int) := hs 0 (Nat.succ_pos _)
      have hb' : gfn (v * 10 + f) fs < 100000 := hb
      have hge := gfn_ge (fs := fs) (n := v * 10 + f)
      have e1 : Qe (w4 (3 + (k : Int))) ((3 + k : Nat) : Int) := by unfold Qe; rw [w4_of (by omega)]; omega
      have e2 : Qe (w4 (w4 (10 * (v : Int)) + (f : Int))) ((v * 10 + f : Nat) : Int) := by unfold Qe; rw [w4_of (x := 10 * (v : Int)) (by omega), w4_of (by omega)]; omega
      have e5 : Qe (w4 ((k : Int) + 1)) ((k + 1 : Nat) : Int) := by unfold Qe; rw [w4_of (by omega)]; omega
      rw [lp_X10_foldsNow_4, show 323 + 1 = 324 from rfl, hc, if_neg (by omega), e1.eq, if_pos (by omega), tnc, hf, xlet_eq, xlet_eq, e2.eq, e5.eq]
      exact ih (k + 1) (v * 10 + f) fs (by omega) (by omega) (fun i hi => by
        rw [show 3 + (k + 1 + i) = 3 + (k + (i + 1)) by omega]
        exact hs (i + 1) (by omega)) hb'
theorem o_count {v : Int} : opN Inv (f_X9_count 0 v) (f_X10_count 323 v) := by
  intro R hI
  obtain ⟨i1, i2, i3, i4, i5, i6⟩ := id hI
  obtain ⟨H, W, g, w, r⟩ := i1.1
  obtain ⟨k1, k2, k3, k4, k5, k6, k7, k8, k9, k10, k11, k12, k13, k14, k15, k16, k17⟩ := id w
  obtain ⟨r1, r2, r3, r4, r5, r6, r7, r8, r9, r10, r11, r12, r13, r14⟩ := id r
  have hc := w.cnt
  unfold f_X9_count f_X10_count
  by_cases c0 : v = 0
  · rw [if_pos c0, if_pos c0]
    exact ⟨_, R, rfl, by rw [show R (0 + 3) 0 = R 324 0 from r1.trans k3.symm], hI⟩
  rw [if_neg c0, if_neg c0]
  by_cases c1 : v = 1
  · rw [if_pos c1, if_pos c1]
    exact ⟨_, R, rfl, by rw [show R (0 + 3) 1 = R 324 1 from r2.trans k4.symm], hI⟩
  rw [if_neg c1, if_neg c1]
  by_cases c2 : v = 2
  · rw [if_pos c2, if_pos c2]
    have h65 : R (0 + 6) 5 = (g.2.2.1 : Int) := r4.2.2.2.2.2.1
    exact ⟨_, R, rfl, by rw [h65, show R (323 + 1) 2 = _ from hc], hI⟩
  rw [if_neg c2, if_neg c2]
  by_cases c3 : v = 3
  · rw [if_pos c3, if_pos c3, show 0 + 6 = 6 from rfl, dep9 r4 w.gw]
    exact ⟨_, R, rfl, by rw [show R (323 + 1) 2 = _ from hc, shl1 _ w.gw.2.2.2.2.1], hI⟩
  rw [if_neg c3, if_neg c3]
  by_cases c4 : v = 4
  · rw [if_pos c4, if_pos c4]
    have h64 : R (0 + 6) 4 = (gfn 0 (gfs (R 324)) : Int) := r4.2.2.2.2.1
    have hfn := w.fnb
    have hl := fnow_lp (R := R) (c := (R 324 2).toNat) (X := fun z5 z6 => some z5) (by omega) (by omega) 6000 0 0 (gfs (R 324)) (by rw [gfs_len]; omega) (by rw [gfs_len]; omega) (fun i hi => by
      rw [gfs_len] at hi
      rw [gfs_at hi, Nat.zero_add]
      have := k6 i (by omega)
      omega) (by omega)
    refine ⟨_, R, rfl, ?_, hI⟩
    unfold f_X10_foldsNow
    rw [z0] at hl
    rw [hl, Option.bind_some, h64]
  rw [if_neg c4, if_neg c4]
  by_cases c5 : v = 5
  · rw [if_pos c5, if_pos c5, show 0 + 6 = 6 from rfl, isb9 r4]
    obtain ⟨R', b1, b2, b3⟩ := isb10 w
    rw [b1]
    by_cases hb : g.1 = 1 ∧ g.2.1 = 1
    · rw [decide_eq_true hb]
      exact ⟨1, R', rfl, rfl, hI.sc b3.sc⟩
    · rw [decide_eq_false hb]
      exact ⟨0, R', rfl, rfl, hI.sc b3.sc⟩
  rw [if_neg c5, if_neg c5]
  by_cases c6 : v = 6
  · rw [if_pos c6, if_pos c6]
    exact ⟨_, R, rfl, by rw [show R (0 + 2) 6 = R 324 8 from r6], hI⟩
  rw [if_neg c6, if_neg c6]
  by_cases c7 : v = 7
  · rw [if_pos c7, if_pos c7, show R (0 + 2) 7 = R 324 9 from r7, bc_eq ⟨k10.1, k10.2.1⟩]
    exact ⟨_, R, rfl, by rw [show R (323 + 1) 9 = R 324 9 from rfl, ones_eq ⟨k10.1, k10.2.1⟩]; rfl, hI⟩
  rw [if_neg c7, if_neg c7]
  by_cases c8 : v = 8
  · rw [if_pos c8, if_pos c8]
    exact ⟨_, R, rfl, by rw [show R (0 + 9) 3 = R 324 12 from r10], hI⟩
  rw [if_neg c8, if_neg c8]
  by_cases c9 : v = 9
  · rw [if_pos c9, if_pos c9]
    exact ⟨_, R, rfl, by rw [show R (0 + 13) 1 = R 324 37 from r12], hI⟩
  rw [if_neg c9, if_neg c9]
  by_cases c10 : v = 10
  · rw [if_pos c10, if_pos c10]
    obtain ⟨-, s1, s2, s3, -⟩ := i1
    have h12 : R (0 + 1) 2 = R 324 154 + 2 * R 324 155 := s3
    rw [h12]
    refine ⟨R 324 154 + R 324 155, R, ?_, ?_, hI⟩
    · rcases s1 with h | h <;> rcases s2 with h' | h' <;> rw [h, h'] <;> rfl
    · rw [show R (323 + 1) 154 = R 324 154 from rfl, show R (323 + 1) 155 = R 324 155 from rfl, w4_of (by omega)]
  rw [if_neg c10, if_neg c10]
  by_cases c11 : v = 11
  · rw [if_pos c11, if_pos c11]
    exact ⟨_, R, rfl, by rw [i5], hI⟩
  rw [if_neg c11, if_neg c11]
  by_cases c12 : v = 12
  · rw [if_pos c12, if_pos c12]
    exact ⟨_, R, rfl, by rw [i3.2.2.1], hI⟩
  rw [if_neg c12, if_neg c12]
  by_cases c13 : v = 13
  · rw [if_pos c13, if_pos c13]
    exact ⟨_, R, rfl, by rw [show R (0 + 2) 9 = R 324 11 from r9], hI⟩
  rw [if_neg c13, if_neg c13]
  by_cases c14 : v = 14
  · rw [if_pos c14, if_pos c14]
    exact ⟨_, R, rfl, by rw [show R (0 + 2) 8 = R 324 10 from r8], hI⟩
  rw [if_neg c14, if_neg c14]
  by_cases c15 : v = 15
  · rw [if_pos c15, if_pos c15]
    exact ⟨_, R, rfl, by rw [show R (0 + 2) 5 = R 324 7 from r5], hI⟩
  rw [if_neg c15, if_neg c15]
  exact ⟨_, R, rfl, rfl, hI⟩
theorem eff9 {R : xN} {s : Nat → Int} (h : ∀ k : Nat, k < 4 → R 15 k = s (86 + k)) {k : Nat} (hk : k < 4) : f_X0_effortOf 2 (k : Int) R = some (s (86 + k)) := by
  unfold f_X0_effortOf
  rw [in9, Option.bind_some, if_pos (decide_eq_true (by omega)), if_pos (by omega), tnc]
  exact congrArg some (h k hk)
theorem o_effort {v : Int} : opR Inv (f_X9_effort 0 v) (f_X10_effort 323 v) := by
  intro R hI
  obtain ⟨H, W, g, w, r⟩ := hI.1.1
  have r14 : ∀ k : Nat, k < 4 → R 15 k = R 324 (86 + k) := r.2.2.2.2.2.2.2.2.2.2.2.2.2
  unfold f_X9_effort f_X10_effort
  by_cases c4 : v = 4
  · have e0 : f_X0_effortOf (0 + 2) 0 R = some (R 324 86) := eff9 r14 (k := 0) (by omega)
    have e1 : f_X0_effortOf (0 + 2) 1 R = some (R 324 87) := eff9 r14 (k := 1) (by omega)
    have e2 : f_X0_effortOf (0 + 2) 2 R = some (R 324 88) := eff9 r14 (k := 2) (by omega)
    have e3 : f_X0_effortOf (0 + 2) 3 R = some (R 324 89) := eff9 r14 (k := 3) (by omega)
    refine ⟨w4 (w4 (w4 (R 324 86 + R 324 87) + R 324 88) + R 324 89), ?_, ?_⟩
    · rw [if_pos c4, e0, Option.bind_some, e1, Option.bind_some, e2, Option.bind_some, e3, Option.bind_some]
    · rw [in10, Option.bind_some, if_pos (decide_eq_true (by omega)), if_pos (by omega)]
  · rw [if_neg c4]
    by_cases h : 0 ≤ v ∧ v ≤ 3
    · obtain ⟨k, hk⟩ := Int.eq_ofNat_of_zero_le h.1
      have hk4 : k < 4 := by omega
      have e1 : Qe (w4 (86 + v)) ((86 + k : Nat) : Int) := by unfold Qe; rw [w4_of (by omega)]; omega
      refine ⟨R 324 (86 + k), ?_, ?_⟩
      · rw [in9, Option.bind_some, if_pos (decide_eq_true h), hk, show 0 + 2 = 2 from rfl, eff9 r14 hk4]
        rfl
      · rw [in10, Option.bind_some, if_pos (decide_eq_true (by omega)), if_neg (by omega), e1.eq, if_pos (by omega), tnc]
    · refine ⟨-1, ?_, ?_⟩
      · rw [in9, Option.bind_some, decide_eq_false h, if_neg (by decide)]
      · rw [in10, Option.bind_some, decide_eq_false (by omega), if_neg (by decide)]
theorem pl_rc {H W r c b : Nat} (hH : len H) (hW : len W) (hr : r < H) (hc : c < W) (hb : b < 2) : pl W (2 * (W * r + c) + b) = 2 * (4 * r + c) + b ∧ 2 * (W * r + c) + b < 2 * (H * W) := by
  unfold pl
  rcases hH with rfl | rfl | rfl <;> rcases hW with rfl | rfl | rfl <;> omega
/-- a side told by row, column and side -/
theorem sd_num {H W r c b : Nat} (hH : len H) (hW : len W) (hr : r < H) (hc : c < W) (hb : b < 2) : Qe (w4 (w4 (w4 (w4 ((r : Int) * 4) + (c : Int)) * 2) + (b : Int))) ((pl W (2 * (W * r + c) + b) : Nat) : Int) ∧ Qe (w4 (w4 (2 * w4 (w4 ((W : Int) * (r : Int)) + (c : Int))) + (b : Int))) ((2 * (W * r + c) + b : Nat) : Int) := by
  have h1 := pl_rc hH hW hr hc hb
  rw [h1.1]
  have hr4 : r < 4 := by rcases hH with rfl | rfl | rfl <;> omega
  have hc4 : c < 4 := by rcases hW with rfl | rfl | rfl <;> omega
  refine ⟨?_, ?_⟩
  · unfold Qe
    rw [w4_of (x := (r : Int) * 4) (by omega), w4_of (x := (r : Int) * 4 + _) (by omega), w4_of (x := _ * 2) (by omega), w4_of (by omega)]
    omega
  · unfold Qe
    rcases hW with rfl | rfl | rfl
    all_goals
      rw [w4_of (x := _ * (r : Int)) (by omega), w4_of (x := _ + (c : Int)) (by omega), w4_of (x := 2 * _) (by omega), w4_of (by omega)]
      omega
theorem o_side {a b c d : Int} : opR Inv (f_X9_side 0 a b c d) (f_X10_side 323 a b c d) := by
  intro R hI
  obtain ⟨H, W, g, w, r⟩ := hI.1.1
  obtain ⟨k1, k2, k3, k4, k5, k6, k7, k8, k9, k10, k11, k12, k13, k14, k15, k16, k17⟩ := id w
  have hP := pr_of w r
  have r1 : R (0 + 3) 0 = (H : Int) := r.1
  have r2 : R (0 + 3) 1 = (W : Int) := r.2.1
  have hH4 : H ≤ 4 := by rcases k1 with rfl | rfl | rfl <;> omega
  have hW4 : W ≤ 4 := by rcases k2 with rfl | rfl | rfl <;> omega
  have e1 : Qe (w4 ((H : Int) - 1)) ((H : Int) - 1) := by unfold Qe; rw [w4_of (by omega)]
  have e2 : Qe (w4 ((W : Int) - 1)) ((W : Int) - 1) := by unfold Qe; rw [w4_of (by omega)]
  unfold f_X9_side f_X10_side f_X5_hasSide f_X10_isCell
  rw [r1, r2, show R (323 + 1) 0 = _ from k3, show R (323 + 1) 1 = _ from k4, e1.eq, e2.eq, in9, in10, Option.bind_some, Option.bind_some]
  by_cases ha : 0 ≤ a ∧ a ≤ (H : Int) - 1
  · rw [if_pos (decide_eq_true ha), if_pos (decide_eq_true ha), in9, in10, Option.bind_some, Option.bind_some]
    by_cases hb : 0 ≤ b ∧ b ≤ (W : Int) - 1
    · rw [if_pos (decide_eq_true hb), if_pos (decide_eq_true hb), in9, Option.bind_some, Option.bind_some, if_pos rfl, in10, Option.bind_some]
      by_cases hc : 0 ≤ c ∧ c ≤ 1
      · rw [if_pos (decide_eq_true hc), if_pos (decide_eq_true hc), Option.bind_some, if_pos rfl, in9, in10, Option.bind_some, Option.bind_some]
        by_cases hd : 0 ≤ d ∧ d ≤ 1
        · obtain ⟨a', rfl⟩ := Int.eq_ofNat_of_zero_le ha.1
          obtain ⟨b', rfl⟩ := Int.eq_ofNat_of_zero_le hb.1
          obtain ⟨c', rfl⟩ := Int.eq_ofNat_of_zero_le hc.1
          obtain ⟨s1, s2⟩ := sd_num (r := a') (c := b') (b := c') k1 k2 (by omega) (by omega) (by omega)
          obtain ⟨p1, p2⟩ := pl_rc (r := a') (c := b') (b := c') k1 k2 (by omega) (by omega) (by omega)
          generalize hk : 2 * (W * a' + b') + c' = k at *
          have hk32 : k < 32 := by have := area_le k1 k2; omega
          obtain ⟨⟨q1, q2⟩, q3, q4⟩ := hP.2.2.2 k p2
          have hl := pl_lt k1 k2 p2
          have e3 : Qe (w4 (122 + (k : Int))) ((122 + k : Nat) : Int) := by unfold Qe; rw [w4_of (by omega)]; omega
          have e4 : Qe (w4 (90 + (k : Int))) ((90 + k : Nat) : Int) := by unfold Qe; rw [w4_of (by omega)]; omega
          rw [if_pos (decide_eq_true hd), if_pos (decide_eq_true hd), xlet_eq, s2.eq]
          unfold f_X9_cellAt f_X9_placeOfSide
          rw [Option.bind_some, Option.bind_some, s1.eq]
          by_cases hd0 : d = 0
          · rw [if_pos hd0, if_neg (by omega), e4.eq, if_pos (by omega), tnc]
            unfold f_X5_numberAt
            rw [in9, Option.bind_some, if_pos (decide_eq_true (by omega)), if_pos (by omega), tnc, show R (0 + 3 + 1) (pl W k) = _ from q1, show 323 + 1 = 324 from rfl]
            refine ⟨nine (R 324 (90 + k)), rfl, ?_⟩
            unfold nine
            by_cases hn : 0 ≤ R 324 (90 + k)
            · rw [if_pos hn, if_pos (by omega), if_neg (by omega)]
            · rw [if_neg hn, if_pos (by omega)]
          · rw [if_neg hd0, if_pos (by omega), e3.eq, if_pos (by omega), tnc]
            unfold f_X5_turnAt
            rw [in9, Option.bind_some, if_pos (decide_eq_true (by omega)), if_pos (by omega), tnc, show R (0 + 3 + 2) (pl W k) = _ from q2]
            exact ⟨_, rfl, rfl⟩
        · rw [decide_eq_false hd, if_neg (by decide), if_neg (by decide)]
          exact ⟨-1, rfl, rfl⟩
      · rw [decide_eq_false hc, if_neg (by decide), if_neg (by decide), Option.bind_some, if_neg (by decide)]
        exact ⟨-1, rfl, rfl⟩
    · rw [decide_eq_false hb, if_neg (by decide), if_neg (by decide), Option.bind_some, Option.bind_some, if_neg (by decide), if_neg (by decide)]
      exact ⟨-1, rfl, rfl⟩
  · rw [decide_eq_false ha, if_neg (by decide), if_neg (by decide), Option.bind_some, Option.bind_some, if_neg (by decide), if_neg (by decide)]
    exact ⟨-1, rfl, rfl⟩
