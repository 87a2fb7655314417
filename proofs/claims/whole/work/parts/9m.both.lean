/-! Notes laid out: both. -/
theorem mln10 {R : xN} {s : Nat → Int} {L D N W : Nat} {t o : Nat → Nat} (hr : R 324 = s) (hLM : LM R W D t) (hD1 : 1 ≤ D) (hL : 1 ≤ L ∧ L ≤ 9) (hs : NS s N) (ho : srt s o N) (hN : N ≤ 12) (h7 : s 7 = 0 ∨ s 7 = 1) (h8 : 0 ≤ s 8 ∧ s 8 ≤ 15) (h37 : s 37 = (N : Int)) (h11 : s 11 = (L : Int)) : ∃ R', f_X10_layNotes 323 R = some R' ∧ R' 323 28 = (cV (zO s t D) (2 * D) : Int) ∧ Pg R' 338 (zO s t D) (2 * D) ∧ (∀ i, i < N → R' 339 (o i) = fF s (sT (zO s t D) L D) D o i) ∧ ∀ q j : Nat, ¬ (q = 338 ∨ q = 339 ∨ (q = 323 ∧ j = 28)) → R' q j = R q j := by
  subst hr
  have hD := hLM.1
  have hM := sm_of (z := zO (R 324) t D) hL ⟨hD1, hD⟩
  have hr0 : xup R 323 28 0 324 = R 324 := xup_ro (by omega)
  obtain ⟨R1, a1, a2, a3, a4⟩ := ml_lp (W := W) (D := D) (t := t) 6000 (2 * D) 0 (xup R 323 28 0) (by omega) (by omega) (hLM.fr (by rw [hr0]) (xup_nn (by omega)) (fun q j g1 g2 => xup_nn (by omega))) (by rw [hr0]; exact h7) (by rw [hr0]; exact h8) xup_eq (fun q hq => absurd hq (Nat.not_lt_zero q))
  rw [hr0] at a2 a3
  rw [z0] at a1
  have hr1 : R1 324 = R 324 := by
    rw [← hr0]
    exact funext fun j => a4 324 j (by omega)
  obtain ⟨R2, z, b1, b2, b3, b4⟩ := mln_lp (s := R 324) (S := sT (zO (R 324) t D) L D) (L := L) (K := cV (zO (R 324) t D) (2 * D)) hM hs ho hN h37 h11 sT_top.symm 6000 N 0 0 R1 (by omega) (by omega) hr1 a2 (om_of ⟨hD1, hD⟩ hL (by rw [hr1]; exact h11) a3) (by omega) (fun a _ => by
    rw [Nat.zero_testBit]
    exact ⟨fun h => absurd h (by decide), fun ⟨i, h, _⟩ => absurd h (Nat.not_lt_zero i)⟩)
  have b1' : ∀ X : Int → Int → Int → xN → Option xN, lp_X10_layNotes_57 323 6000 0 0 0 R1 X = X z (nxF (R 324) (sT (zO (R 324) t D) L D) D o N : Int) (N : Int) R2 := b1
  refine ⟨R2, ?_, ?_, ?_, fun i hi => b2 i (Nat.zero_le i) hi, fun q j hq => ?_⟩
  · unfold f_X10_layNotes
    rw [xlet_eq, a1, b1']
  · rw [b3 323 28 (by omega)]; exact a2
  · exact a3.k (fun j => b3 338 j (by omega))
  · rw [b3 q j (by omega), a4 q j (by omega), xup_nn (by omega)]
/-- both layouts, as far as they are read -/
def Lay (R1 R2 : xN) (s : Nat → Int) (L N K : Nat) : Prop := R1 314 6 = (L : Int) ∧ R1 314 3 = (K : Int) ∧ R2 323 28 = (K : Int) ∧ K ≤ 32 ∧ (∀ q, q < K → R1 317 q = R2 338 q ∧ 0 ≤ R2 338 q) ∧ (∀ q q', q < q' → q' < K → R2 338 q < R2 338 q') ∧ (∀ a, a < N → R1 316 a = nine (R2 339 a) ∧ (0 ≤ R2 339 a → R2 339 a + (lnN s a : Int) ≤ ((L * K : Nat) : Int))) ∧ ∀ a b, a < N → b < N → a ≠ b → 0 ≤ R2 339 a → 0 ≤ R2 339 b → ∀ y : Nat, R2 339 a ≤ (y : Int) → (y : Int) < R2 339 a + (lnN s a : Int) → R2 339 b ≤ (y : Int) → ¬ (y : Int) < R2 339 b + (lnN s b : Int)
theorem lay_of {R1 R2 : xN} {s : Nat → Int} {L D N : Nat} {t o : Nat → Nat} (hD : 1 ≤ D ∧ D ≤ 16) (hL : 1 ≤ L ∧ L ≤ 9) (hs : NS s N) (h : LyC R1 s L D N t o) (m1 : R2 323 28 = (cV (zO s t D) (2 * D) : Int)) (m2 : Pg R2 338 (zO s t D) (2 * D)) (m3 : ∀ i, i < N → R2 339 (o i) = fF s (sT (zO s t D) L D) D o i) : Lay R1 R2 s L N (cV (zO s t D) (2 * D)) := by
  obtain ⟨c1, c2, c3, ho, c5⟩ := h
  have hM := sm_of (z := zO s t D) hL hD
  have hc := cV_le (z := zO s t D) (2 * D)
  have hap : ∀ i j, i < j → j < N → 0 ≤ R2 339 (o i) → 0 ≤ R2 339 (o j) → ∀ y : Nat, (y : Int) < R2 339 (o i) + (lnN s (o i) : Int) → (y : Int) < R2 339 (o j) := fun i j hij hj g1 g2 y g3 => by
    rw [m3 i (by omega)] at g1 g3
    rw [m3 j hj] at g2 ⊢
    exact fF_apart hM hs ho.2.1 hij hj g1 g2 g3
  refine ⟨c1, c2, m1, by omega, fun q hq => ?_, fun q q' hqq hq => ?_, fun a ha => ?_, fun a b ha hb hab g1 g2 y g3 g4 g5 g6 => ?_⟩
  · obtain ⟨p, p1, p2, p3⟩ := cV_inv (2 * D) q hq
    have e1 := c3 p p1 p2
    have e2 := m2 p p1 p2
    rw [p3] at e1 e2
    rw [e1, e2]
    exact ⟨rfl, Int.natCast_nonneg p⟩
  · obtain ⟨p, p1, p2, p3⟩ := cV_inv (z := zO s t D) (2 * D) q (by omega)
    obtain ⟨p', p4, p5, p6⟩ := cV_inv (2 * D) q' hq
    have e1 := m2 p p1 p2
    have e2 := m2 p' p4 p5
    rw [p3] at e1
    rw [p6] at e2
    rw [e1, e2]
    have : p < p' := by
      apply Classical.byContradiction
      intro hn
      have := cV_mono (z := zO s t D) (p := p') p (by omega)
      omega
    omega
  · obtain ⟨i, i1, i2⟩ := ho.2.2 a ha
    subst i2
    refine ⟨by rw [c5 i i1, m3 i i1], fun g => ?_⟩
    rw [m3 i i1] at g ⊢
    have := ((fsW_ok (nx := nxF s (sT (zO s t D) L D) D o i) hM hs ha).2 g).2
    rw [sT_top] at this
    exact this
  · obtain ⟨i, i1, i2⟩ := ho.2.2 a ha
    obtain ⟨j, j1, j2⟩ := ho.2.2 b hb
    subst i2 j2
    by_cases hij : i < j
    · have := hap i j hij j1 g1 g2 y g4; omega
    · by_cases hji : j < i
      · have := hap j i hji i1 g2 g1 y g6; omega
      · exact hab (by rw [show i = j by omega])
theorem cb_of {R : xN} {s : Nat → Int} {H W : Nat} {g : gG} (w : SW s H W g) (r : DR R 2 s H W g) (hb : g.1 = 1 ∧ g.2.1 = 1) (h1 : 1 ≤ H * W) : CB R s (s 11).toNat (H * W) g.2.2.2 := by
  have h11 := w.2.2.2.2.2.2.2.2.2.2.2.1
  exact ⟨(lb_of w.gw r.2.2.2.1 hb).1, r.2.2.2.2.1, r.2.2.2.2.2.1, w.2.2.2.2.2.2.2.2.1, by rw [r.2.2.2.2.2.2.2.2.1]; omega, by omega, h1⟩
theorem nb_of {R : xN} {s : Nat → Int} {H W : Nat} {g : gG} (w : SW s H W g) (r : DR R 2 s H W g) : NB R s (s 37).toNat ∧ NS s (s 37).toNat := by
  have h37 := w.2.2.2.2.2.2.2.2.2.2.2.2.2.2.1
  have hn := w.2.2.2.2.2.2.2.2.2.2.2.2.2.2.2.1
  have h12 := r.2.2.2.2.2.2.2.2.2.2.2.1
  have h14 := r.2.2.2.2.2.2.2.2.2.2.2.2.1
  refine ⟨⟨by omega, by omega, ?_, fun k hk => ?_⟩, fun a ha => ?_⟩
  · have : R 13 1 = s 37 := h12
    rw [this]; omega
  · exact h14 k (by omega)
  · obtain ⟨-, -, h3, h4⟩ := hn a (by omega)
    exact ⟨h3, h4⟩
/-- the model's booklet, at whatever memory stands on the same row -/
theorem bkM {R : xN} {s : Nat → Int} {H W : Nat} {g : gG} (hr : R 324 = s) (w : SW s H W g) : ∃ (v : Bool × xN) (Ra : xN), f_X10_isBooklet 323 R = some v ∧ v.1 = decide (g.1 = 1 ∧ g.2.1 = 1) ∧ v.2 = Ra ∧ kLay R Ra ∧ Ra 324 = s ∧ ((g.1 = 1 ∧ g.2.1 = 1) → LM Ra W (H * W) g.2.2.2) := by
  subst hr
  obtain ⟨Ra, b1, b2, b3⟩ := isb10 w
  have hra : Ra 324 = R 324 := funext fun j => b3 324 j (by omega) (by omega)
  exact ⟨_, Ra, b1, rfl, rfl, b3, hra, fun hb => lm_of w.gw (by rw [hra]; exact w.2.2.2.1) b2 hb⟩
/-- what is behind a layout -/
theorem lay_all {R : xN} {H W : Nat} {g : gG} (w : SW (R 324) H W g) (r : DR R 2 (R 324) H W g) (hb : g.1 = 1 ∧ g.2.1 = 1) : ∃ R1, f_X2_arrange 314 2 R = some R1 ∧ kSc R R1 ∧ R1 324 = R 324 ∧ (∀ q j : Nat, q < 311 → R1 q j = R q j) ∧ ∃ (v : Bool × xN) (Ra R2 : xN) (K : Nat), f_X10_isBooklet 323 R1 = some v ∧ v.1 = decide (g.1 = 1 ∧ g.2.1 = 1) ∧ v.2 = Ra ∧ LM Ra W (H * W) g.2.2.2 ∧ Ra 324 = R 324 ∧ f_X10_layNotes 323 Ra = some R2 ∧ R2 324 = R 324 ∧ kSc R1 R2 ∧ Lay R1 R2 (R 324) (R 324 11).toNat (R 324 37).toNat K := by
  have h1 : 1 ≤ H * W := by
    have h1 := w.gw.dep
    have h2 := (book_iff w.gw).mpr hb
    omega
  have hC := cb_of w r hb h1
  obtain ⟨hB, hs⟩ := nb_of w r
  obtain ⟨R1, o, a1, a2, a3⟩ := arr9 hC hB hs
  have hr1 : R1 324 = R 324 := funext fun j => a3 324 j (by omega)
  obtain ⟨v, Ra, b1, b2, b3, b4, b5, b6⟩ := bkM hr1 w
  have h11 := w.2.2.2.2.2.2.2.2.2.2.2.1
  obtain ⟨R2, c1, c2, c3, c4, c5⟩ := mln10 b5 (b6 hb) h1 hC.2.2.2.2.2.1 hs a2.2.2.2.1 hB.2.1 w.2.2.2.2.2.2.2.1 w.2.2.2.2.2.2.2.2.1 hB.1 (show R 324 11 = (((R 324 11).toNat : Nat) : Int) by omega)
  refine ⟨R1, a1, fun q j g1 g2 g3 => a3 q j (by omega), hr1, fun q j hq => a3 q j (by omega), v, Ra, R2, _, b1, b2, b3, b6 hb, b5, c1, ?_, ?_, lay_of ⟨h1, hC.1.1⟩ hC.2.2.2.2.2.1 hs a2 c2 c3 c4⟩
  · rw [← b5]
    exact funext fun j => c5 324 j (by omega)
  · intro q j g1 g2 g3
    rw [c5 q j (by omega), b4 q j (by omega) (by omega)]
