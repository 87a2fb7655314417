/-! The law, whole. -/
theorem xis_prn {k : Nat} (h : k < 32) : xis (90 + k) = -1 ∧ xis (122 + k) = 0 := by
  unfold xis
  refine ⟨?_, ?_⟩
  · rw [if_neg (by omega), if_neg (by omega), if_neg (by omega), if_neg (by omega), if_pos (by omega)]
  · rw [if_neg (by omega), if_neg (by omega), if_neg (by omega), if_neg (by omega), if_neg (by omega)]
theorem gt_num : ∀ i : Nat, i < 8 → gt0 4 i = i ∧ gt0 4 i < 64 ∧ gt0 4 i % 16 / 4 < 2 ∧ gt0 4 i % 4 < 4 := by decide
theorem sd_init {R : xN} (h : xi0 R 2) : SD R 2 xis := by
  obtain ⟨a1, a2, a3, a4, a5, a6, a7, a8, a9, a10, a11, a12, a13, a14, a15, a16, a17, a18, a19⟩ := h
  have g0 : gfs xis = [] := rfl
  have z12 : xis 12 = 0 := rfl
  have z37 : xis 37 = 0 := rfl
  have z2 : xis 2 = 0 := rfl
  refine ⟨2, 4, gg0 2 4, ⟨Or.inr (Or.inl rfl), Or.inr (Or.inr rfl), rfl, rfl, by rw [z2]; omega, fun i hi => by rw [z2] at hi; omega, by rw [g0]; rfl, Or.inl rfl, ⟨by decide, by decide⟩, ⟨by decide, by decide, by decide⟩, ⟨by decide, by decide⟩, ⟨by decide, by decide⟩, by rw [z12]; omega, fun k hk => by rw [z12] at hk; omega, by rw [z37]; omega, fun k hk => by rw [z37] at hk; omega, fun k hk => ?_⟩, ⟨a1, a2, fun k hk => ?_, ?_, ?_, ?_, ?_, ?_, ?_, ?_, fun k hk => by rw [z12] at hk; omega, ?_, fun k hk => by rw [z37] at hk; omega, fun k hk => ?_⟩⟩
  · obtain ⟨p1, p2⟩ := xis_prn hk
    rw [p1, p2]
    exact ⟨⟨by omega, by omega⟩, Or.inl rfl⟩
  · obtain ⟨p1, p2⟩ := xis_prn (k := k) (by omega)
    have hp := pl_lt (H := 2) (W := 4) (Or.inr (Or.inl rfl)) (Or.inr (Or.inr rfl)) hk
    rw [p1, p2, a3 _ hp, a4 _ hp]
    exact ⟨rfl, rfl⟩
  · rw [g0]
    exact ⟨a5, a6, a7, a8, a9, a10, fun i hi => by
      have hi8 : i < 8 := hi
      show R (2 + 4 + 1) i = (gt0 4 i : Int)
      rw [(gt_num i hi8).1]
      exact a11 i hi8⟩
  · exact a15
  · exact a16
  · exact a17
  · exact a18
  · exact a19
  · exact a12
  · exact a13
  · rw [show R (2 + 13) k = 0 from a14 k hk]
    have : k = 0 ∨ k = 1 ∨ k = 2 ∨ k = 3 := by omega
    rcases this with rfl | rfl | rfl | rfl <;> rfl
theorem ci_start {R : xN} (h9 : xi9 R 0) : CI R xis [] := by
  obtain ⟨⟨b1, b2⟩, ⟨b3, b4⟩, b5⟩ := h9
  have h45 : R 45 1 = 0 := b3
  have h46 : ∀ k : Nat, k < 6 → R 46 k = ((47 + 44 * k : Nat) : Int) := fun k hk => b4 k hk
  refine ⟨⟨sd_init b1, Or.inl rfl, Or.inl rfl, b2, fun k hk hs => ?_⟩, ⟨by omega, by omega, fun k hk => ⟨k, hk, h46 k hk⟩, fun k k' hk hk' e => ?_⟩, ?_, fun k hk => absurd hk (Nat.not_lt_zero _)⟩
  · exfalso
    have : k = 0 ∨ k = 1 := by omega
    rcases this with rfl | rfl
    · exact absurd hs (by decide)
    · exact absurd hs (by decide)
  · rw [h46 k hk, h46 k' hk'] at e; omega
  · rw [h45]; exact Int.le_refl 0
theorem len_pow {r : Nat} (h : r < 3) : len (2 ^ r) := match r, h with
  | 0, _ => Or.inl rfl
  | 1, _ => Or.inr (Or.inl rfl)
  | 2, _ => Or.inr (Or.inr rfl)
  | n + 3, h => absurd h (by omega)
theorem lenI_of {n : Nat} (h : len n) : (n : Int) = 1 ∨ (n : Int) = 2 ∨ (n : Int) = 4 := by
  rcases h with h | h | h <;> omega
theorem xpure : xPure := by
  intro xs xn _ _ _ R0 h9
  have ci := ci_start h9
  obtain ⟨a, ha, fa⟩ := cell9 (xs := xs) (xn := xn) (k := 0)
  obtain ⟨w, hw, fw⟩ := cell9 (xs := xs) (xn := xn) (k := 1)
  obtain ⟨b, hb, fb⟩ := cell9 (xs := xs) (xn := xn) (k := 2)
  have er : Int.tmod (a : Int) 3 = ((a % 3 : Nat) : Int) := tmn (m := 3)
  have ec0 : b4shr (a : Int) 3 = ((a / 8 : Nat) : Int) := shr31 (i := 3) ha (by decide)
  have ec : Int.tmod ((a / 8 : Nat) : Int) 3 = ((a / 8 % 3 : Nat) : Int) := tmn (m := 3)
  have es0 : b4shr (a : Int) 7 = ((a / 128 : Nat) : Int) := shr31 (i := 7) ha (by decide)
  have es : Int.tmod ((a / 128 : Nat) : Int) 2 = ((a / 128 % 2 : Nat) : Int) := tmn (m := 2)
  have ew : Int.tmod (w : Int) 256 = ((w % 256 : Nat) : Int) := tmn (m := 256)
  obtain ⟨r, hr⟩ : ∃ r, a % 3 = r := ⟨_, rfl⟩
  obtain ⟨c, hc⟩ : ∃ c, a / 8 % 3 = c := ⟨_, rfl⟩
  obtain ⟨sp, hsp⟩ : ∃ sp, a / 128 % 2 = sp := ⟨_, rfl⟩
  have hr3 : r < 3 := by omega
  have hc3 : c < 3 := by omega
  have hsp2 : sp < 2 := by omega
  obtain ⟨n, g, fn, hn, hg, hlen, hdig, hgf⟩ := fby9 hr3 hc3 (w := w % 256) (Nat.mod_lt _ (by decide))
  have eh := shl1 r (by omega)
  have ewd := shl1 c (by omega)
  have hH := len_pow hr3
  have hW := len_pow hc3
  have hD : 2 ^ (r + c) = 2 ^ r * 2 ^ c := Nat.pow_add 2 r c
  generalize 2 ^ r = H at *
  generalize 2 ^ c = W at *
  have ea : Qe _ _ := (area_num H (len_mem hH) W (len_mem hW)).2.1
  have hA := area_le hH hW
  have h1 : 1 ≤ H * W := by rw [← hD]; exact Nat.one_le_two_pow
  -- the sheet
  have q1 : spSheet (H : Int) (W : Int) xis = (((H * W : Nat) : Int), sheet4 xis (H : Int) (W : Int)) := by
    unfold spSheet
    rw [if_pos (lenI_of hH), if_pos (lenI_of hW), Int.natCast_mul]
  obtain ⟨R1, a1, -, b1⟩ := dact8 (f9 := f_X9_setSheet 0 (H : Int) (W : Int)) d_sheet (fun _ => rfl) ci q1
  have c1 := (b1 (nerr (Int.natCast_nonneg _)) (Nat.zero_le 4)).nil
  obtain ⟨s1, hs1⟩ : ∃ s1, sheet4 xis (H : Int) (W : Int) = s1 := ⟨_, rfl⟩
  have z : ∀ j : Nat, j = 2 ∨ j = 8 ∨ j = 9 ∨ j = 12 → s1 j = 0 := fun j hj => by rw [← hs1]; exact sheet4_z hj
  have zn : ∀ j : Nat, 2 < j ∧ j < 90 ∧ j ≠ 8 ∧ j ≠ 9 ∧ j ≠ 12 → s1 j = xis j := fun j hj => by rw [← hs1]; exact sheet4_ne (Or.inr hj)
  have z0' : s1 0 = (H : Int) := by rw [← hs1]; rfl
  have z1' : s1 1 = (W : Int) := by rw [← hs1]; rfl
  have zp : ∀ k : Nat, k < 32 → s1 (90 + k) = -1 := fun k hk => by rw [← hs1]; exact (sheet4_p hk).1
  rw [hs1] at c1
  -- the spine
  have q2 : spSpine (sp : Int) s1 = (0, u1 s1 7 (sp : Int)) := by
    unfold spSpine
    rw [if_pos (by omega), if_pos (z 9 (by omega)), zn 7 (by omega)]
    rfl
  obtain ⟨R2, a2, -, b2⟩ := dact8 (f9 := f_X9_setSpine 0 (sp : Int)) d_spine (fun _ => rfl) c1 q2
  have c2 := (b2 (nerr (by decide)) (Nat.zero_le 4)).nil
  -- no sheet
  have q3 : spSheet 3 1 (u1 s1 7 (sp : Int)) = (-1, u1 s1 7 (sp : Int)) := by
    unfold spSheet
    rw [if_neg (by decide)]
  obtain ⟨R3, a3, b3, -⟩ := dact8 (f9 := f_X9_setSheet 0 3 1) d_sheet (fun _ => rfl) c2 q3
  have c3 := b3 err1
  -- printed, and printed again
  obtain ⟨m1, R4, s4, a4, c4, f4, o4, p4, u4, -⟩ := print9 c3 (H := H) (W := W) (by rw [u1_ne (by decide)]; exact z0') (by rw [u1_ne (by decide)]; exact z1') (by rw [u1_ne (by decide)]; exact z 2 (by omega)) (by rw [u1_ne (by decide)]; exact z 8 (by omega)) (by rw [u1_ne (by decide)]; exact z 9 (by omega)) hg
  have hm1 := u4 (fun k hk => by rw [u1_ne (by omega)]; exact zp k hk)
  subst hm1
  have k4 : ∀ j : Nat, j ≠ 87 → j ≠ 7 → j < 90 → s4 j = s1 j := fun j x1 x2 x3 => by rw [f4 j x1 (Or.inl x3), u1_ne x2]
  have p4' : s4 87 = ((2 * (H * W) : Nat) : Int) := by
    rw [p4.eq, u1_ne (by decide), zn 87 (by omega), show xis 87 = 0 from rfl, w4_of (by omega)]
    omega
  obtain ⟨m2, R5, s5, a5, c5, f5, o5, p5, -, u5⟩ := print9 c4 (H := H) (W := W) (by rw [k4 0 (by omega) (by omega) (by omega)]; exact z0') (by rw [k4 1 (by omega) (by omega) (by omega)]; exact z1') (by rw [k4 2 (by omega) (by omega) (by omega)]; exact z 2 (by omega)) (by rw [k4 8 (by omega) (by omega) (by omega)]; exact z 8 (by omega)) (by rw [k4 9 (by omega) (by omega) (by omega)]; exact z 9 (by omega)) hg
  have hm2 := u5 o4
  subst hm2
  have k5 : ∀ j : Nat, j ≠ 87 → j ≠ 7 → j < 90 → s5 j = s1 j := fun j x1 x2 x3 => by rw [f5 j x1 (Or.inl x3), k4 j x1 x2 x3]
  have p5' : s5 87 = ((2 * (H * W) : Nat) : Int) := by
    rw [p5.eq, p4', w4_of (by omega)]
    omega
  have w5 := open_sw c5 (H := H) (W := W) (by rw [k5 0 (by omega) (by omega) (by omega)]; exact z0') (by rw [k5 1 (by omega) (by omega) (by omega)]; exact z1') (by rw [k5 2 (by omega) (by omega) (by omega)]; exact z 2 (by omega))
  have e5 := effk c5 w5 (k := 1) (by omega)
  rw [show 86 + 1 = 87 from rfl, p5'] at e5
  obtain ⟨R6, a6, c6⟩ := reads9 c5 w5 hg
  have hopg : opg s5 W g.2.2.2 0 (2 * (H * W)) = 2 * (H * W) := by
    rw [opg_own _ _ (fun q _ hq => o5 q (by omega))]
    omega
  rw [hopg] at a6
  -- the sights
  obtain ⟨R7, s7, l7, c7, f7, t7, g7⟩ := see_lp (xs := xs) (xn := xn) (p3 := (r : Int)) (p4 := (c : Int)) (p5 := (H : Int)) (p6 := (W : Int)) (p8 := (n : Int)) (H := H) (W := W) (b := b) (s0 := s5) hb h1 hA (by rw [k5 0 (by omega) (by omega) (by omega)]; exact z0') (by rw [k5 1 (by omega) (by omega) (by omega)]; exact z1') 6000 8 0 R6 s5 (by omega) (by omega) c6 (fun j _ => rfl) (by rw [k5 12 (by omega) (by omega) (by omega)]; exact z 12 (by omega)) (fun j hj => by omega)
  have k7 : ∀ j : Nat, j ≠ 87 → j ≠ 7 → j < 90 → ¬ (12 ≤ j ∧ j < 37) → s7 j = s1 j := fun j x1 x2 x3 x4 => by rw [f7 j x4, k5 j x1 x2 x3]
  have hwg := gbk_w hH hW hg
  have o7 : ∀ p : Nat, p < 2 * (H * W) → own s7 W g.2.2.2 p := fun p hp => own_mv hwg hp (f7 7 (by omega)) (fun j x1 x2 => f7 j (by omega)) (o5 p hp)
  have pa : PA s7 H W g := ⟨by rw [k7 0 (by omega) (by omega) (by omega) (by omega)]; exact z0', by rw [k7 1 (by omega) (by omega) (by omega) (by omega)]; exact z1', by rw [k7 2 (by omega) (by omega) (by omega) (by omega)]; exact z 2 (by omega), by rw [k7 8 (by omega) (by omega) (by omega) (by omega)]; exact z 8 (by omega), by rw [k7 9 (by omega) (by omega) (by omega) (by omega)]; exact z 9 (by omega), by rw [k7 10 (by omega) (by omega) (by omega) (by omega), zn 10 (by omega)]; rfl, by rw [k7 86 (by omega) (by omega) (by omega) (by omega), zn 86 (by omega)]; rfl, by rw [k7 88 (by omega) (by omega) (by omega) (by omega), zn 88 (by omega)]; rfl, by rw [k7 89 (by omega) (by omega) (by omega) (by omega), zn 89 (by omega)]; rfl, o7⟩
  obtain ⟨R8, m8⟩ := mid9 (xs := xs) (xn := xn) c7 pa t7 g7 hg hlen (by omega) hdig hn hgf hD
  refine ⟨R8, law_eq.trans ?_⟩
  have e0 : Qe (w4 (2 * ((H * W : Nat) : Int))) ((2 * (H * W) : Nat) : Int) := by unfold Qe; rw [w4_of (by omega)]; omega
  obtain ⟨v1, v11, v12, v13⟩ := pr1 a1
  obtain ⟨v2, v21, v22, v23⟩ := pr1 a2
  obtain ⟨v3, v31, v32, v33⟩ := pr1 a3
  obtain ⟨v4, v41, v42, v43⟩ := pr1 a4
  obtain ⟨v5, v51, v52, v53⟩ := pr1 a5
  obtain ⟨v6, v61, v62, v63⟩ := pr1 a6
  unfold hdF
  rw [show f_L_cell xs xn 0 R0 = _ from fa R0, Option.bind_some, xlet_eq, xlet_eq, xlet_eq, xlet_eq, xlet_eq, er, ec0, ec, hr, hc, eh, ewd, ea.eq, show f_L_cell xs xn 1 R0 = _ from fw R0, Option.bind_some, ew, fn R0, Option.bind_some, v11, Option.bind_some, v12, v13, if_pos rfl, es0, es, hsp, v21, Option.bind_some, v22, v23, if_pos rfl, v31, Option.bind_some, v32, v33, if_pos rfl, v41, Option.bind_some, v42, v43, e0.eq, if_pos rfl, v51, Option.bind_some, v52, v53, if_pos rfl, show f_X9_effort 0 1 R5 = _ from e5, Option.bind_some, if_pos rfl, v61, Option.bind_some, v62, v63, if_pos rfl, show f_L_cell xs xn 2 R6 = _ from fb R6, Option.bind_some]
  refine (l7 _).trans ?_
  rw [if_neg (by decide)]
  exact m8
