/-! Each page is read, or hidden as its opening is shut. -/
theorem read_lp {R : xN} {s : Nat → Int} {H W : Nat} {g : gG} (ci : CI R s []) (w : SW s H W g) (hb : g.1 = 1 ∧ g.2.1 = 1) (ho : ∀ p : Nat, p < 2 * (H * W) → own s W g.2.2.2 p) : ∀ (n c p : Nat) (f : Int), c < n → p + c = 2 * (H * W) → (f = -9 ∨ 0 ≤ f) → ∀ X : Int → Int → Int → xN → Option (Bool × xN), lp_L_isRead_8 0 ((H * W : Nat) : Int) n 1 f (p : Int) R X = X 1 (if 0 ≤ f then f else if fhd (hdB s H W g) p c = 2 * (H * W) then -9 else (fhd (hdB s H W g) p c : Int)) ((2 * (H * W) : Nat) : Int) R := by
  obtain ⟨q9, L9, hP, hD1, hD⟩ := bk9 ci w hb
  have e0 : Qe (w4 (2 * ((H * W : Nat) : Int))) ((2 * (H * W) : Nat) : Int) := by unfold Qe; rw [w4_of (by omega)]; omega
  intro n
  induction n with
  | zero => intro c p f h; omega
  | succ n ih =>
    intro c p f h1 h2 hf X
    rw [lp_L_isRead_8, e0.eq]
    cases c with
    | zero =>
      rw [if_pos (by omega), show p = 2 * (H * W) from h2]
      rcases hf with hf | hf
      · rw [if_neg (by omega), show fhd (hdB s H W g) (2 * (H * W)) 0 = 2 * (H * W) from rfl, if_pos rfl, hf]
      · rw [if_pos hf]
    | succ c =>
      have hp : p < 2 * (H * W) := by omega
      have hop := ho p hp
      have hoD : (p + 1) / 2 ≤ H * W := by omega
      obtain ⟨o0, o1, -⟩ := open9 ci w hb hoD
      have eh := half1 (p := p) (by omega)
      have e5 : Qe (w4 ((p : Int) + 1)) ((p + 1 : Nat) : Int) := by unfold Qe; rw [w4_of (by omega)]; omega
      obtain ⟨g0, g1, g2⟩ := page0 ci w hb hp
      obtain ⟨g3, g4⟩ := page3 ci w hb hp hop
      have gpo := pageOf9 ci w hb ho hp
      have hcell := L9.2 (p / 2) (by omega)
      have hside : f_X9_side 0 (cr (g.2.2.2 (p / 2)) : Int) ((g.2.2.2 (p / 2) % 4 : Nat) : Int) (sdN (g.2.2.2 (p / 2)) p : Int) 0 R = some (p : Int) := by
        rw [side9 ci w (a := cr (g.2.2.2 (p / 2))) (b := g.2.2.2 (p / 2) % 4) (d := sdN (g.2.2.2 (p / 2)) p) hcell.1 hcell.2 sdN_lt]
        have hk : 2 * (W * cr (g.2.2.2 (p / 2)) + g.2.2.2 (p / 2) % 4) + sdN (g.2.2.2 (p / 2)) p = kS W (g.2.2.2 (p / 2)) p := rfl
        rw [hk, hop.1]
        unfold nine
        rw [if_neg (by omega)]
      obtain ⟨u0, a0, b0, d0⟩ := pr1 g0
      obtain ⟨u1', a1, b1, d1⟩ := pr1 g1
      obtain ⟨u2, a2, b2, d2⟩ := pr1 g2
      obtain ⟨u3, a3, b3, d3⟩ := pr1 g3
      obtain ⟨u4, a4, b4, d4⟩ := pr1 g4
      rw [if_neg (by omega), if_neg (by decide)]
      by_cases hh : hid s g.2.2.2 (H * W) p
      · obtain ⟨g5, g6⟩ := (page5 ci w hb hp hop).1 hh
        have hz : shz s H W g ((p + 1) / 2) ≠ 0 := hh
        rw [if_neg hz] at o0
        obtain ⟨u5, a5, b5, d5⟩ := pr1 g5
        obtain ⟨u6, a6, b6, d6⟩ := pr1 g6
        rw [a5, Option.bind_some, b5, d5, if_pos rfl, xlet_eq, a3, Option.bind_some, b3, d3, if_pos rfl, a4, Option.bind_some, b4, d4, if_pos rfl, gpo, Option.bind_some, if_pos rfl, eh.eq, o0, Option.bind_some, if_pos rfl, a6, Option.bind_some, b6, d6, if_pos (show (0 : Int) = w4 (1 - 1) by decide), a0, Option.bind_some, b0, d0, a1, Option.bind_some, b1, d1, a2, Option.bind_some, b2, d2, hside, Option.bind_some, if_pos rfl, if_pos rfl, o1, Option.bind_some, if_neg (by omega), xlet_eq, e5.eq]
        have hfh : fhd (hdB s H W g) p (c + 1) = p := by
          unfold fhd
          rw [if_pos (hdB_1.mpr hh)]
        rcases hf with hf | hf
        · have q : (if 0 ≤ f then f else (p : Int)) = (p : Int) := if_neg (by omega)
          rw [q, ih c (p + 1) (p : Int) (by omega) (by omega) (Or.inr (by omega)) X, hfh, if_pos (show (0 : Int) ≤ (p : Int) by omega), if_neg (show ¬ 0 ≤ f by omega), if_neg (show ¬ p = 2 * (H * W) by omega)]
        · have q : (if 0 ≤ f then f else (p : Int)) = f := if_pos hf
          rw [q, ih c (p + 1) f (by omega) (by omega) (Or.inr hf) X, if_pos hf, if_pos hf]
      · obtain ⟨g5, g6⟩ := (page5 ci w hb hp hop).2 hh
        have hz : shz s H W g ((p + 1) / 2) = 0 := by
          by_cases h : shz s H W g ((p + 1) / 2) = 0
          · exact h
          · exact absurd h hh
        rw [if_pos hz] at o0
        rw [hz] at o1
        obtain ⟨u5, a5, b5, d5⟩ := pr1 g5
        obtain ⟨u6, a6, b6, d6⟩ := pr1 g6
        rw [a5, Option.bind_some, b5, d5, if_neg (by decide), a3, Option.bind_some, b3, d3, if_pos rfl, a4, Option.bind_some, b4, d4, if_pos rfl, gpo, Option.bind_some, if_pos rfl, eh.eq, o0, Option.bind_some, if_pos rfl, a6, Option.bind_some, b6, d6, if_pos (show (1 : Int) = w4 (1 - 0) by decide), a0, Option.bind_some, b0, d0, a1, Option.bind_some, b1, d1, a2, Option.bind_some, b2, d2, hside, Option.bind_some, if_pos rfl, if_neg (by decide), o1, Option.bind_some, if_pos (by decide), xlet_eq, e5.eq]
        have hfh : fhd (hdB s H W g) p (c + 1) = fhd (hdB s H W g) (p + 1) c := by
          show (if hdB s H W g p = true then p else fhd (hdB s H W g) (p + 1) c) = _
          rw [if_neg (fun h => hh (hdB_1.mp h))]
        rw [ih c (p + 1) f (by omega) (by omega) hf X, hfh]
theorem isRead9 {R : xN} {s : Nat → Int} {H W : Nat} {g : gG} (ci : CI R s []) (w : SW s H W g) (hb : g.1 = 1 ∧ g.2.1 = 1) (ho : ∀ p : Nat, p < 2 * (H * W) → own s W g.2.2.2 p) : f_L_isRead 0 ((H * W : Nat) : Int) R = some (true, R) := by
  obtain ⟨q9, L9, hP, hD1, hD⟩ := bk9 ci w hb
  have e0 : Qe (w4 (2 * ((H * W : Nat) : Int))) ((2 * (H * W) : Nat) : Int) := by unfold Qe; rw [w4_of (by omega)]; omega
  have hl := read_lp ci w hb ho 6000 (2 * (H * W)) 0 (-9) (by omega) (by omega) (Or.inl rfl)
  rw [z0] at hl
  unfold f_L_isRead
  rw [hl, if_neg (show ¬ (0 : Int) ≤ -9 by decide), if_neg (by decide), rdg9 ci w hb ho (u := 0) (by decide), Option.bind_some, rdg9 ci w hb ho (u := 1) (by decide), rdg9 ci w hb ho (u := 2) (by decide), e0.eq, xlet_eq]
  generalize fhd (hdB s H W g) 0 (2 * (H * W)) = k
  by_cases hk : k = 2 * (H * W)
  · rw [if_pos hk, if_pos hk, if_pos hk, if_pos hk, if_pos (show (0 : Int) = 0 from rfl), if_neg (show ¬ (0 : Int) ≤ -9 by decide), if_pos rfl, Option.bind_some, if_neg (show ¬ (1 : Int) = 0 by decide), if_pos rfl, Option.bind_some, xlet_eq, if_neg (show ¬ (2 : Int) = 0 by decide), if_neg (show ¬ (0 : Int) ≤ -9 by decide), if_pos rfl]
  · rw [if_neg hk, if_neg hk, if_neg hk, if_neg hk, if_neg (show ¬ (0 : Int) = 2 by decide), if_pos (show (0 : Int) ≤ (k : Int) by omega), if_pos rfl, Option.bind_some, if_neg (show ¬ (1 : Int) = 2 by decide), if_pos rfl, Option.bind_some, xlet_eq, if_pos (show (2 : Int) = 2 from rfl), if_pos (show (0 : Int) ≤ (k : Int) by omega), if_pos rfl]
