/-! The law's middle: sights, rows that fit, the best row. -/
def SG (s : Nat → Int) (D k : Nat) : Prop := ∀ j : Nat, j < k → ∃ p : Nat, p < 2 * D ∧ s (13 + 3 * j) = (p : Int) ∧ s (14 + 3 * j) = (p : Int) ∧ s (15 + 3 * j) = 0
theorem mid9 {xs : Nat → Int} {xn : Int} {R : xN} {s : Nat → Int} {H W n r c : Nat} {g : gG} (ci : CI R s []) (pa : PA s H W g) (h12 : s 12 = 8) (sg : SG s (H * W) 8) (hg : gbk H W (n : Int) = some g) (hlen : (gdk 4 n).length = r + c) (hrc : r + c ≤ 4) (hdig : ∀ k, k < r + c → n / 10 ^ (r + c - 1 - k) % 10 = (gdk 4 n).getD k 0) (hn : n < 10000) (hgf : gfn 0 (gdk 4 n) = n) (hD : 2 ^ (r + c) = H * W) : ∃ R2, mdF xs xn (r : Int) (c : Int) (H : Int) (W : Int) ((H * W : Nat) : Int) (n : Int) R = some (true, R2) := by
  have pa' := pa
  obtain ⟨s0, s1, s2, s8, s9, s10, s86, s88, s89, so⟩ := pa
  have w0 := open_sw ci s0 s1 s2
  have hA := area_le w0.1 w0.2.1
  have h1 : 1 ≤ H * W := by rw [← hD]; exact Nat.one_le_two_pow
  have har := w0.area
  -- no ninth sight
  have hse : spSee 0 0 0 s = (-3, s) := by
    unfold spSee
    rw [har, if_pos (by omega), if_pos (by decide), if_pos (by decide), if_pos h12]
  obtain ⟨R1, a1, b1, -⟩ := dact8 (f9 := f_X9_see 0 0 0 0) d_see (fun _ => rfl) ci hse
  have c1 := b1 err3
  -- the row fits
  have hsn : snA s W g.2.2.2 0 8 = true := snA_of 8 0 (fun j _ hj => by
    obtain ⟨p, hp, q1, q2, q3⟩ := sg j (by omega)
    exact snB_own (so p hp) q1 q2 q3)
  obtain ⟨F1, F2, F3⟩ := fitA (s := s) (m := 8) hg hsn
  obtain ⟨R2, a2, c2⟩ := fit9 c1 w0 (m := 8) h12 (v := 0) (by decide)
  rw [if_pos rfl] at a2
  obtain ⟨R3, a3, c3⟩ := fit9 c2 w0 (m := 8) h12 (v := 1) (by decide)
  rw [if_neg (by decide), if_pos rfl] at a3
  obtain ⟨R4, a4, c4⟩ := fit9 c3 w0 (m := 8) h12 (v := 2) (by decide)
  rw [if_neg (by decide), if_neg (by decide)] at a4
  -- the cuts
  obtain ⟨R5, a5, c5⟩ := cuts9 c4 w0 hg
  have hcu := ecC_lt (H := H) (W := W) (sp := spE s) (t := g.2.2.2) 4 0 0 (by omega) (by omega)
  obtain ⟨nb, gb, hb1, hb2, hb3⟩ := bst_ex (s := s) hg
  obtain ⟨R6, a6, c6⟩ := best9 c5 w0 hb1 hb2 (v := 1) (by decide)
  rw [if_neg (by decide), if_pos rfl] at a6
  have hcmp := rk_cmp hA hb2 hg hb3
  have hopg : opg s W g.2.2.2 0 (2 * (H * W)) = 2 * (H * W) := by
    rw [opg_own _ _ (fun q _ hq => so q (by omega))]
    omega
  rw [hopg] at hcmp
  have e0 : Qe (w4 (2 * ((H * W : Nat) : Int))) ((2 * (H * W) : Nat) : Int) := by unfold Qe; rw [w4_of (by omega)]; omega
  obtain ⟨v1, v11, v12, v13⟩ := pr1 a1
  obtain ⟨v2, v21, v22, v23⟩ := pr1 a2
  obtain ⟨v3, v31, v32, v33⟩ := pr1 a3
  obtain ⟨v4, v41, v42, v43⟩ := pr1 a4
  obtain ⟨v5, v51, v52, v53⟩ := pr1 a5
  obtain ⟨v6, v61, v62, v63⟩ := pr1 a6
  unfold mdF
  rw [v11, Option.bind_some, v12, v13, if_pos rfl, v21, Option.bind_some, v22, v23, if_neg (show ¬ _ < (1 : Int) by omega), v31, Option.bind_some, v32, v33, if_neg (show ¬ (n : Int) < _ by omega), v41, Option.bind_some, v42, v43, if_neg (show ¬ _ < (n : Int) by omega), v51, Option.bind_some, v52, v53, lones9 hcu, Option.bind_some, v61, Option.bind_some, v62, v63]
  by_cases hlt : ones (ecC H W gb.2.2.2 (spE s) 0 4 0) < ones (ecC H W g.2.2.2 (spE s) 0 4 0)
  · rw [if_pos (by omega)]
    exact tail9 c6 pa' h12 hg hlen hrc hdig hn hgf hD
  · rcases hcmp with h | ⟨h2, h3⟩
    · exact absurd h hlt
    · obtain ⟨R7, a7, c7⟩ := best9 c6 w0 hb1 hb2 (v := 1) (by decide)
      rw [if_neg (by decide), if_pos rfl] at a7
      obtain ⟨R8, a8, c8⟩ := best9 c7 w0 hb1 hb2 (v := 2) (by decide)
      rw [if_neg (by decide), if_neg (by decide)] at a8
      obtain ⟨v7, v71, v72, v73⟩ := pr1 a7
      obtain ⟨v8, v81, v82, v83⟩ := pr1 a8
      rw [if_neg (by omega), v71, Option.bind_some, v72, v73, if_pos (by rw [h2]), v81, Option.bind_some, v82, v83, e0.eq, if_neg (by omega)]
      exact tail9 c8 pa' h12 hg hlen hrc hdig hn hgf hD
theorem see_lp {xs : Nat → Int} {xn p3 p4 p5 p6 p8 : Int} {H W b : Nat} {s0 : Nat → Int} (hb : b < 2147483648) (h1 : 1 ≤ H * W) (hA : H * W ≤ 16) (e0 : s0 0 = (H : Int)) (e1 : s0 1 = (W : Int)) : ∀ (n c k : Nat) (R : xN) (s : Nat → Int), c < n → k + c = 8 → CI R s [] → (∀ j : Nat, ¬ (12 ≤ j ∧ j < 37) → s j = s0 j) → s 12 = (k : Int) → SG s (H * W) k → ∃ (R' : xN) (s' : Nat → Int), (∀ X : Int → Int → xN → Option (Bool × xN), lp_L_law_172 xs xn 0 p3 p4 p5 p6 ((H * W : Nat) : Int) p8 (b : Int) n 1 (k : Int) R X = X 1 8 R') ∧ CI R' s' [] ∧ (∀ j : Nat, ¬ (12 ≤ j ∧ j < 37) → s' j = s0 j) ∧ s' 12 = 8 ∧ SG s' (H * W) 8 := by
  intro n
  induction n with
  | zero => intro c k R s h; omega
  | succ n ih =>
    intro c k R s h1' h2 ci fr h12 sg
    cases c with
    | zero =>
      have hk : k = 8 := h2
      subst hk
      refine ⟨R, s, fun X => ?_, ci, fr, h12, sg⟩
      rw [lp_L_law_172, if_pos (by decide)]
      rfl
    | succ c =>
      have hk : k < 8 := by omega
      obtain ⟨p, hp⟩ : ∃ p, b / 2 ^ k % (2 * (H * W)) = p := ⟨_, rfl⟩
      have hpl : p < 2 * (H * W) := by rw [← hp]; exact Nat.mod_lt _ (by omega)
      have e2 : Qe (w4 (2 * ((H * W : Nat) : Int))) ((2 * (H * W) : Nat) : Int) := by unfold Qe; rw [w4_of (by omega)]; omega
      have e3 : Qe (Int.tmod (b4shr (b : Int) (k : Int)) ((2 * (H * W) : Nat) : Int)) (p : Int) := by
        unfold Qe
        rw [shr31 hb (by omega), tmn, hp]
      have e5 : Qe (w4 ((k : Int) + 1)) ((k + 1 : Nat) : Int) := by unfold Qe; rw [w4_of (by omega)]; omega
      have har : s 0 * s 1 = ((H * W : Nat) : Int) := by rw [fr 0 (by omega), fr 1 (by omega), e0, e1]; exact (Int.natCast_mul H W).symm
      have hse : spSee (p : Int) (p : Int) 0 s = (((k + 1 : Nat) : Int), see4 s (p : Int) (p : Int) 0) := by
        unfold spSee
        rw [har, if_pos (by omega), if_pos (by omega), if_pos (by decide), if_neg (by omega), h12]
        rfl
      obtain ⟨R1, a1, -, a3⟩ := dact8 (f9 := f_X9_see 0 (p : Int) (p : Int) 0) d_see (fun _ => rfl) ci hse
      have c1 := (a3 (nerr (by show (0 : Int) ≤ ((k + 1 : Nat) : Int); omega)) (Nat.zero_le 4)).nil
      have hkt : (s 12).toNat = k := by rw [h12]; exact Int.toNat_natCast k
      have q12 : see4 s (p : Int) (p : Int) 0 12 = ((k + 1 : Nat) : Int) := by
        unfold see4
        rw [u1_eq, h12]; omega
      have qo : ∀ j : Nat, j ≠ 12 → j ≠ 13 + 3 * k → j ≠ 14 + 3 * k → j ≠ 15 + 3 * k → see4 s (p : Int) (p : Int) 0 j = s j := fun j x1 x2 x3 x4 => by
        unfold see4
        rw [hkt, u1_ne x1, u1_ne x4, u1_ne x3, u1_ne x2]
      have q13 : see4 s (p : Int) (p : Int) 0 (13 + 3 * k) = (p : Int) := by
        unfold see4
        rw [hkt, u1_ne (by omega), u1_ne (by omega), u1_ne (by omega), u1_eq]
      have q14 : see4 s (p : Int) (p : Int) 0 (14 + 3 * k) = (p : Int) := by
        unfold see4
        rw [hkt, u1_ne (by omega), u1_ne (by omega), u1_eq]
      have q15 : see4 s (p : Int) (p : Int) 0 (15 + 3 * k) = 0 := by
        unfold see4
        rw [hkt, u1_ne (by omega), u1_eq]
      obtain ⟨R', s', b1, b2, b3, b4, b5⟩ := ih c (k + 1) R1 (see4 s (p : Int) (p : Int) 0) (by omega) (by omega) c1 (fun j hj => by rw [qo j (by omega) (by omega) (by omega) (by omega)]; exact fr j hj) q12 (fun j hj => by
        by_cases hjk : j = k
        · subst hjk
          exact ⟨p, hpl, q13, q14, q15⟩
        · obtain ⟨p', d1, d2, d3, d4⟩ := sg j (by omega)
          exact ⟨p', d1, by rw [qo _ (by omega) (by omega) (by omega) (by omega)]; exact d2, by rw [qo _ (by omega) (by omega) (by omega) (by omega)]; exact d3, by rw [qo _ (by omega) (by omega) (by omega) (by omega)]; exact d4⟩)
      refine ⟨R', s', fun X => ?_, b2, b3, b4, b5⟩
      obtain ⟨v, v1, v2, v3⟩ := pr1 a1
      rw [lp_L_law_172, if_neg (by omega), if_neg (by decide), e2.eq, if_pos (by omega), if_pos (by omega), e3.eq, v1, Option.bind_some, v2, v3, e5.eq, if_pos rfl, xlet_eq]
      exact b1 X
/-- a sheet is printed for a row of folds -/
theorem print9 {R : xN} {s : Nat → Int} {H W n : Nat} {g : gG} (ci : CI R s []) (s0 : s 0 = (H : Int)) (s1 : s 1 = (W : Int)) (s2 : s 2 = 0) (s8 : s 8 = 0) (s9 : s 9 = 0) (hg : gbk H W (n : Int) = some g) : ∃ (a : Int) (R' : xN) (s' : Nat → Int), f_X9_printAll 0 (n : Int) R = some (a, R') ∧ CI R' s' [] ∧ (∀ j : Nat, j ≠ 87 → (j < 90 ∨ 154 ≤ j) → s' j = s j) ∧ (∀ p : Nat, p < 2 * (H * W) → own s' W g.2.2.2 p) ∧ Qe (s' 87) (w4 (s 87 + a)) ∧ ((∀ k : Nat, k < 32 → s (90 + k) = -1) → a = ((2 * (H * W) : Nat) : Int)) ∧ ((∀ p : Nat, p < 2 * (H * W) → own s W g.2.2.2 p) → a = 0) := by
  have w0 := open_sw ci s0 s1 s2
  have hwg := gbk_w w0.1 w0.2.1 hg
  obtain ⟨G1, -⟩ := gP_of w0.1 w0.2.1 hg
  have hK : ∀ q, q < 2 * (H * W) → kS W (g.2.2.2 (q / 2)) q < 32 := fun q hq => kS_lt2 hwg hq
  obtain ⟨i1, i2, i3, i4⟩ := prA_own (s0 := s) hK (fun p q hp hq e => kS_inj G1 hp hq e) (2 * (H * W)) 0 0 s (by omega)
  have hinv := prA_inv (s0 := s) (W := W) (t := g.2.2.2)
  have hsp : spAll (n : Int) s = ((prA s W g.2.2.2 0 (2 * (H * W)) 0 s).1, u1 (prA s W g.2.2.2 0 (2 * (H * W)) 0 s).2 87 (w4 (s 87 + (prA s W g.2.2.2 0 (2 * (H * W)) 0 s).1))) := by
    rw [spAll_eq s0 s1, hg]
    exact if_pos ⟨s2, s8, s9⟩
  have hpos : 0 ≤ (prA s W g.2.2.2 0 (2 * (H * W)) 0 s).1 := by
    have hc : ∀ (c p : Nat) (m : Int) (s' : Nat → Int), m ≤ (prA s W g.2.2.2 p c m s').1 := by
      intro c
      induction c with
      | zero => intro p m s'; exact Int.le_refl _
      | succ c ih =>
        intro p m s'
        have h := ih (p + 1) (m + chg s' (kS W (g.2.2.2 (p / 2)) p) (p : Int) (tU s (g.2.2.2 (p / 2)) p : Int)) (st1 s' (kS W (g.2.2.2 (p / 2)) p) (p : Int) (tU s (g.2.2.2 (p / 2)) p : Int))
        have h0 := (chg_01 (s := s') (k := kS W (g.2.2.2 (p / 2)) p) (n := (p : Int)) (t := (tU s (g.2.2.2 (p / 2)) p : Int))).1
        show m ≤ (prA s W g.2.2.2 (p + 1) c _ _).1
        omega
    exact hc _ _ _ _
  obtain ⟨R1, a1, -, a3⟩ := dact8 (f9 := f_X9_printAll 0 (n : Int)) d_all (fun _ => rfl) ci hsp
  have c1 := (a3 (nerr hpos) (Nat.zero_le 4)).nil
  have far : ∀ j : Nat, (j < 90 ∨ 154 ≤ j) → (prA s W g.2.2.2 0 (2 * (H * W)) 0 s).2 j = s j := fun j hj => i2 j (fun q _ hq => by have := hK q hq; omega)
  refine ⟨_, R1, _, a1, c1, fun j h1 h2 => by rw [u1_ne h1]; exact far j h2, fun p hp => ?_, u1_eq, fun hu => ?_, fun ho => ?_⟩
  · obtain ⟨o1, o2⟩ := i1 p (Nat.zero_le _) hp
    have hk := hK p hp
    unfold own tU
    rw [u1_ne (by omega), u1_ne (by omega), u1_ne (by decide), far 7 (by omega)]
    exact ⟨o1, o2⟩
  · rw [i3 (fun q _ hq => hu _ (hK q hq))]
    omega
  · exact i4 (fun q _ hq => ho q hq)
