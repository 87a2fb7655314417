/-! Changes of a row by groups. -/
theorem xup_rf {R : xN} {a k : Nat} {v : Int} : xup R a k v a = u1 (R a) k v := funext fun _ => xup_row
theorem SW.sc {s s' : Nat → Int} {H W : Nat} {g : gG} (h : SW s H W g) (e : ∀ j : Nat, j < 154 → ¬ (7 ≤ j ∧ j ≤ 11) → ¬ (86 ≤ j ∧ j < 90) → s' j = s j) (c7 : s' 7 = 0 ∨ s' 7 = 1) (c8 : 0 ≤ s' 8 ∧ s' 8 ≤ 15) (c9 : 0 ≤ s' 9 ∧ s' 9 ≤ 1023 ∧ ones (s' 9).toNat ≤ 3) (c10 : 1 ≤ s' 10 ∧ s' 10 ≤ 16) (c11 : 1 ≤ s' 11 ∧ s' 11 ≤ 9) : SW s' H W g := by
  obtain ⟨a1, a2, a3, a4, a5, a6, a7, a8, a9, a10, a11, a12, a13, a14, a15, a16, a17⟩ := h
  refine ⟨a1, a2, ?_, ?_, ?_, fun i hi => ?_, ?_, c7, c8, c9, c10, c11, ?_, fun k hk => ?_, ?_, fun k hk => ?_, fun k hk => ?_⟩
  · rw [e 0 (by omega) (by omega) (by omega)]; exact a3
  · rw [e 1 (by omega) (by omega) (by omega)]; exact a4
  · rw [e 2 (by omega) (by omega) (by omega)]; exact a5
  · rw [e 2 (by omega) (by omega) (by omega)] at hi; rw [e _ (by omega) (by omega) (by omega)]; exact a6 i hi
  · rw [gfs_sg (e 2 (by omega) (by omega) (by omega)) (fun i hi => e _ (by omega) (by omega) (by omega))]; exact a7
  · rw [e 12 (by omega) (by omega) (by omega)]; exact a13
  · rw [e 12 (by omega) (by omega) (by omega)] at hk
    rw [e _ (by omega) (by omega) (by omega), e (14 + 3 * k) (by omega) (by omega) (by omega), e (15 + 3 * k) (by omega) (by omega) (by omega)]; exact a14 k hk
  · rw [e 37 (by omega) (by omega) (by omega)]; exact a15
  · rw [e 37 (by omega) (by omega) (by omega)] at hk
    rw [e _ (by omega) (by omega) (by omega), e (39 + 4 * k) (by omega) (by omega) (by omega), e (40 + 4 * k) (by omega) (by omega) (by omega), e (41 + 4 * k) (by omega) (by omega) (by omega)]; exact a16 k hk
  · rw [e _ (by omega) (by omega) (by omega), e (122 + k) (by omega) (by omega) (by omega)]; exact a17 k hk
theorem DR.sc {R R' : xN} {s s' : Nat → Int} {H W : Nat} {g : gG} (h : DR R 2 s H W g) (w : SW s H W g) (e : ∀ j : Nat, j < 154 → ¬ (7 ≤ j ∧ j ≤ 11) → ¬ (86 ≤ j ∧ j < 90) → s' j = s j) (f : ∀ q j : Nat, 3 ≤ q → q < 15 → R' q j = R q j) (r5 : R' 2 5 = s' 7) (r6 : R' 2 6 = s' 8) (r7 : R' 2 7 = s' 9) (r8 : R' 2 8 = s' 10) (r9 : R' 2 9 = s' 11) (r13 : ∀ k : Nat, k < 4 → R' 15 k = s' (86 + k)) : DR R' 2 s' H W g := by
  obtain ⟨a1, a2, a3, a4, a5, a6, a7, a8, a9, a10, a11, a12, a13, a14⟩ := h
  obtain ⟨w1, w2, w3, w4, w5, w6, w7, w8, w9, w10, w11, w12, w13, w14, w15, w16, w17⟩ := w
  have hA := area_le w1 w2
  refine ⟨?_, ?_, fun k hk => ?_, ?_, r5, r6, r7, r8, r9, ?_, fun k hk => ?_, ?_, fun k hk => ?_, r13⟩
  · rw [f _ _ (by omega) (by omega)]; exact a1
  · rw [f _ _ (by omega) (by omega)]; exact a2
  · rw [e _ (by omega) (by omega) (by omega), e (122 + k) (by omega) (by omega) (by omega), f _ _ (by omega) (by omega), f _ _ (by omega) (by omega)]; exact a3 k hk
  · rw [gfs_sg (e 2 (by omega) (by omega) (by omega)) (fun i hi => e _ (by omega) (by omega) (by omega))]
    exact a4.fr (fun q j hq => f q j (by omega) (by omega))
  · rw [e 12 (by omega) (by omega) (by omega), f _ _ (by omega) (by omega)]; exact a10
  · rw [e 12 (by omega) (by omega) (by omega)] at hk
    rw [e _ (by omega) (by omega) (by omega), e (14 + 3 * k) (by omega) (by omega) (by omega), e (15 + 3 * k) (by omega) (by omega) (by omega), f _ _ (by omega) (by omega), f _ _ (by omega) (by omega), f _ _ (by omega) (by omega)]; exact a11 k hk
  · rw [e 37 (by omega) (by omega) (by omega), f _ _ (by omega) (by omega)]; exact a12
  · rw [e 37 (by omega) (by omega) (by omega)] at hk
    rw [e _ (by omega) (by omega) (by omega), f _ _ (by omega) (by omega)]; exact a13 k hk
/-- folds and efforts change -/
theorem SW.gf {s s' : Nat → Int} {H W : Nat} {g g' : gG} (h : SW s H W g) (e : ∀ j : Nat, j < 154 → ¬ (2 ≤ j ∧ j ≤ 6) → ¬ (86 ≤ j ∧ j < 90) → s' j = s j) (c2 : 0 ≤ s' 2 ∧ s' 2 ≤ 4) (c3 : ∀ i : Nat, (i : Int) < s' 2 → 0 ≤ s' (3 + i)) (cg : gall (gfs s') (gg0 H W) = some g') : SW s' H W g' := by
  obtain ⟨a1, a2, a3, a4, a5, a6, a7, a8, a9, a10, a11, a12, a13, a14, a15, a16, a17⟩ := h
  refine ⟨a1, a2, ?_, ?_, c2, c3, cg, ?_, ?_, ?_, ?_, ?_, ?_, fun k hk => ?_, ?_, fun k hk => ?_, fun k hk => ?_⟩
  · rw [e 0 (by omega) (by omega) (by omega)]; exact a3
  · rw [e 1 (by omega) (by omega) (by omega)]; exact a4
  · rw [e 7 (by omega) (by omega) (by omega)]; exact a8
  · rw [e 8 (by omega) (by omega) (by omega)]; exact a9
  · rw [e 9 (by omega) (by omega) (by omega)]; exact a10
  · rw [e 10 (by omega) (by omega) (by omega)]; exact a11
  · rw [e 11 (by omega) (by omega) (by omega)]; exact a12
  · rw [e 12 (by omega) (by omega) (by omega)]; exact a13
  · rw [e 12 (by omega) (by omega) (by omega)] at hk
    rw [e _ (by omega) (by omega) (by omega), e (14 + 3 * k) (by omega) (by omega) (by omega), e (15 + 3 * k) (by omega) (by omega) (by omega)]; exact a14 k hk
  · rw [e 37 (by omega) (by omega) (by omega)]; exact a15
  · rw [e 37 (by omega) (by omega) (by omega)] at hk
    rw [e _ (by omega) (by omega) (by omega), e (39 + 4 * k) (by omega) (by omega) (by omega), e (40 + 4 * k) (by omega) (by omega) (by omega), e (41 + 4 * k) (by omega) (by omega) (by omega)]; exact a16 k hk
  · rw [e _ (by omega) (by omega) (by omega), e (122 + k) (by omega) (by omega) (by omega)]; exact a17 k hk
theorem DR.gf {R R' : xN} {s s' : Nat → Int} {H W : Nat} {g g' : gG} (h : DR R 2 s H W g) (w : SW s H W g) (e : ∀ j : Nat, j < 154 → ¬ (2 ≤ j ∧ j ≤ 6) → ¬ (86 ≤ j ∧ j < 90) → s' j = s j) (f : ∀ q j : Nat, 2 ≤ q → q < 15 → q ≠ 6 → q ≠ 7 → q ≠ 8 → R' q j = R q j) (l : LRg R' 6 H W g' (gfn 0 (gfs s'))) (r13 : ∀ k : Nat, k < 4 → R' 15 k = s' (86 + k)) : DR R' 2 s' H W g' := by
  obtain ⟨a1, a2, a3, a4, a5, a6, a7, a8, a9, a10, a11, a12, a13, a14⟩ := h
  obtain ⟨w1, w2, w3, w4, w5, w6, w7, w8, w9, w10, w11, w12, w13, w14, w15, w16, w17⟩ := w
  have hA := area_le w1 w2
  refine ⟨?_, ?_, fun k hk => ?_, l, ?_, ?_, ?_, ?_, ?_, ?_, fun k hk => ?_, ?_, fun k hk => ?_, r13⟩
  · rw [f _ _ (by omega) (by omega) (by omega) (by omega) (by omega)]; exact a1
  · rw [f _ _ (by omega) (by omega) (by omega) (by omega) (by omega)]; exact a2
  · rw [e _ (by omega) (by omega) (by omega), e (122 + k) (by omega) (by omega) (by omega), f _ _ (by omega) (by omega) (by omega) (by omega) (by omega), f _ _ (by omega) (by omega) (by omega) (by omega) (by omega)]; exact a3 k hk
  · rw [e 7 (by omega) (by omega) (by omega), f _ _ (by omega) (by omega) (by omega) (by omega) (by omega)]; exact a5
  · rw [e 8 (by omega) (by omega) (by omega), f _ _ (by omega) (by omega) (by omega) (by omega) (by omega)]; exact a6
  · rw [e 9 (by omega) (by omega) (by omega), f _ _ (by omega) (by omega) (by omega) (by omega) (by omega)]; exact a7
  · rw [e 10 (by omega) (by omega) (by omega), f _ _ (by omega) (by omega) (by omega) (by omega) (by omega)]; exact a8
  · rw [e 11 (by omega) (by omega) (by omega), f _ _ (by omega) (by omega) (by omega) (by omega) (by omega)]; exact a9
  · rw [e 12 (by omega) (by omega) (by omega), f _ _ (by omega) (by omega) (by omega) (by omega) (by omega)]; exact a10
  · rw [e 12 (by omega) (by omega) (by omega)] at hk
    rw [e _ (by omega) (by omega) (by omega), e (14 + 3 * k) (by omega) (by omega) (by omega), e (15 + 3 * k) (by omega) (by omega) (by omega), f _ _ (by omega) (by omega) (by omega) (by omega) (by omega), f _ _ (by omega) (by omega) (by omega) (by omega) (by omega), f _ _ (by omega) (by omega) (by omega) (by omega) (by omega)]; exact a11 k hk
  · rw [e 37 (by omega) (by omega) (by omega), f _ _ (by omega) (by omega) (by omega) (by omega) (by omega)]; exact a12
  · rw [e 37 (by omega) (by omega) (by omega)] at hk
    rw [e _ (by omega) (by omega) (by omega), f _ _ (by omega) (by omega) (by omega) (by omega) (by omega)]; exact a13 k hk
/-- sights change -/
theorem SW.sg12 {s s' : Nat → Int} {H W : Nat} {g : gG} (h : SW s H W g) (e : ∀ j : Nat, j < 154 → ¬ (12 ≤ j ∧ j < 37) → s' j = s j) (c12 : 0 ≤ s' 12 ∧ s' 12 ≤ 8) (c13 : ∀ k : Nat, (k : Int) < s' 12 → (0 ≤ s' (13 + 3 * k) ∧ s' (13 + 3 * k) < 2 * ((H * W : Nat) : Int)) ∧ (0 ≤ s' (14 + 3 * k) ∧ s' (14 + 3 * k) ≤ 31) ∧ (s' (15 + 3 * k) = 0 ∨ s' (15 + 3 * k) = 1)) : SW s' H W g := by
  obtain ⟨a1, a2, a3, a4, a5, a6, a7, a8, a9, a10, a11, a12, a13, a14, a15, a16, a17⟩ := h
  refine ⟨a1, a2, ?_, ?_, ?_, fun i hi => ?_, ?_, ?_, ?_, ?_, ?_, ?_, c12, c13, ?_, fun k hk => ?_, fun k hk => ?_⟩
  · rw [e 0 (by omega) (by omega)]; exact a3
  · rw [e 1 (by omega) (by omega)]; exact a4
  · rw [e 2 (by omega) (by omega)]; exact a5
  · rw [e 2 (by omega) (by omega)] at hi; rw [e _ (by omega) (by omega)]; exact a6 i hi
  · rw [gfs_sg (e 2 (by omega) (by omega)) (fun i hi => e _ (by omega) (by omega))]; exact a7
  · rw [e 7 (by omega) (by omega)]; exact a8
  · rw [e 8 (by omega) (by omega)]; exact a9
  · rw [e 9 (by omega) (by omega)]; exact a10
  · rw [e 10 (by omega) (by omega)]; exact a11
  · rw [e 11 (by omega) (by omega)]; exact a12
  · rw [e 37 (by omega) (by omega)]; exact a15
  · rw [e 37 (by omega) (by omega)] at hk
    rw [e _ (by omega) (by omega), e (39 + 4 * k) (by omega) (by omega), e (40 + 4 * k) (by omega) (by omega), e (41 + 4 * k) (by omega) (by omega)]; exact a16 k hk
  · rw [e _ (by omega) (by omega), e (122 + k) (by omega) (by omega)]; exact a17 k hk
theorem DR.sg12 {R R' : xN} {s s' : Nat → Int} {H W : Nat} {g : gG} (h : DR R 2 s H W g) (w : SW s H W g) (e : ∀ j : Nat, j < 154 → ¬ (12 ≤ j ∧ j < 37) → s' j = s j) (f : ∀ q j : Nat, 2 ≤ q → q < 16 → ¬ (9 ≤ q ∧ q < 13) → R' q j = R q j) (r : R' 9 3 = s' 12) (rk : ∀ k : Nat, (k : Int) < s' 12 → R' 10 k = s' (13 + 3 * k) ∧ R' 11 k = s' (14 + 3 * k) ∧ R' 12 k = s' (15 + 3 * k)) : DR R' 2 s' H W g := by
  obtain ⟨a1, a2, a3, a4, a5, a6, a7, a8, a9, a10, a11, a12, a13, a14⟩ := h
  obtain ⟨w1, w2, w3, w4, w5, w6, w7, w8, w9, w10, w11, w12, w13, w14, w15, w16, w17⟩ := w
  have hA := area_le w1 w2
  refine ⟨?_, ?_, fun k hk => ?_, ?_, ?_, ?_, ?_, ?_, ?_, r, rk, ?_, fun k hk => ?_, fun k hk => ?_⟩
  · rw [f _ _ (by omega) (by omega) (by omega)]; exact a1
  · rw [f _ _ (by omega) (by omega) (by omega)]; exact a2
  · rw [e _ (by omega) (by omega), e (122 + k) (by omega) (by omega), f _ _ (by omega) (by omega) (by omega), f _ _ (by omega) (by omega) (by omega)]; exact a3 k hk
  · rw [gfs_sg (e 2 (by omega) (by omega)) (fun i hi => e _ (by omega) (by omega))]
    exact a4.fr (fun q j hq => f q j (by omega) (by omega) (by omega))
  · rw [e 7 (by omega) (by omega), f _ _ (by omega) (by omega) (by omega)]; exact a5
  · rw [e 8 (by omega) (by omega), f _ _ (by omega) (by omega) (by omega)]; exact a6
  · rw [e 9 (by omega) (by omega), f _ _ (by omega) (by omega) (by omega)]; exact a7
  · rw [e 10 (by omega) (by omega), f _ _ (by omega) (by omega) (by omega)]; exact a8
  · rw [e 11 (by omega) (by omega), f _ _ (by omega) (by omega) (by omega)]; exact a9
  · rw [e 37 (by omega) (by omega), f _ _ (by omega) (by omega) (by omega)]; exact a12
  · rw [e 37 (by omega) (by omega)] at hk
    rw [e _ (by omega) (by omega), f _ _ (by omega) (by omega) (by omega)]; exact a13 k hk
  · rw [e _ (by omega) (by omega), f _ _ (by omega) (by omega) (by omega)]; exact a14 k hk
/-- print and efforts change -/
theorem SW.pr {s s' : Nat → Int} {H W : Nat} {g : gG} (h : SW s H W g) (e : ∀ j : Nat, j < 86 → s' j = s j) (c : ∀ k : Nat, k < 32 → (-1 ≤ s' (90 + k) ∧ s' (90 + k) ≤ 31) ∧ (s' (122 + k) = 0 ∨ s' (122 + k) = 1)) : SW s' H W g := by
  obtain ⟨a1, a2, a3, a4, a5, a6, a7, a8, a9, a10, a11, a12, a13, a14, a15, a16, a17⟩ := h
  refine ⟨a1, a2, ?_, ?_, ?_, fun i hi => ?_, ?_, ?_, ?_, ?_, ?_, ?_, ?_, fun k hk => ?_, ?_, fun k hk => ?_, c⟩
  · rw [e 0 (by omega)]; exact a3
  · rw [e 1 (by omega)]; exact a4
  · rw [e 2 (by omega)]; exact a5
  · rw [e 2 (by omega)] at hi; rw [e _ (by omega)]; exact a6 i hi
  · rw [gfs_sg (e 2 (by omega)) (fun i hi => e _ (by omega))]; exact a7
  · rw [e 7 (by omega)]; exact a8
  · rw [e 8 (by omega)]; exact a9
  · rw [e 9 (by omega)]; exact a10
  · rw [e 10 (by omega)]; exact a11
  · rw [e 11 (by omega)]; exact a12
  · rw [e 12 (by omega)]; exact a13
  · rw [e 12 (by omega)] at hk
    rw [e _ (by omega), e (14 + 3 * k) (by omega), e (15 + 3 * k) (by omega)]; exact a14 k hk
  · rw [e 37 (by omega)]; exact a15
  · rw [e 37 (by omega)] at hk
    rw [e _ (by omega), e (39 + 4 * k) (by omega), e (40 + 4 * k) (by omega), e (41 + 4 * k) (by omega)]; exact a16 k hk
theorem DR.pr {R R' : xN} {s s' : Nat → Int} {H W : Nat} {g : gG} (h : DR R 2 s H W g) (w : SW s H W g) (e : ∀ j : Nat, j < 86 → s' j = s j) (f : ∀ q j : Nat, 2 ≤ q → q < 15 → q ≠ 4 → q ≠ 5 → R' q j = R q j) (rk : ∀ k : Nat, k < 2 * (H * W) → R' 4 (pl W k) = nine (s' (90 + k)) ∧ R' 5 (pl W k) = s' (122 + k)) (r13 : ∀ k : Nat, k < 4 → R' 15 k = s' (86 + k)) : DR R' 2 s' H W g := by
  obtain ⟨a1, a2, a3, a4, a5, a6, a7, a8, a9, a10, a11, a12, a13, a14⟩ := h
  obtain ⟨w1, w2, w3, w4, w5, w6, w7, w8, w9, w10, w11, w12, w13, w14, w15, w16, w17⟩ := w
  refine ⟨?_, ?_, rk, ?_, ?_, ?_, ?_, ?_, ?_, ?_, fun k hk => ?_, ?_, fun k hk => ?_, r13⟩
  · rw [f _ _ (by omega) (by omega) (by omega) (by omega)]; exact a1
  · rw [f _ _ (by omega) (by omega) (by omega) (by omega)]; exact a2
  · rw [gfs_sg (e 2 (by omega)) (fun i hi => e _ (by omega))]
    exact a4.fr (fun q j hq => f q j (by omega) (by omega) (by omega) (by omega))
  · rw [e 7 (by omega), f _ _ (by omega) (by omega) (by omega) (by omega)]; exact a5
  · rw [e 8 (by omega), f _ _ (by omega) (by omega) (by omega) (by omega)]; exact a6
  · rw [e 9 (by omega), f _ _ (by omega) (by omega) (by omega) (by omega)]; exact a7
  · rw [e 10 (by omega), f _ _ (by omega) (by omega) (by omega) (by omega)]; exact a8
  · rw [e 11 (by omega), f _ _ (by omega) (by omega) (by omega) (by omega)]; exact a9
  · rw [e 12 (by omega), f _ _ (by omega) (by omega) (by omega) (by omega)]; exact a10
  · rw [e 12 (by omega)] at hk
    rw [e _ (by omega), e (14 + 3 * k) (by omega), e (15 + 3 * k) (by omega), f _ _ (by omega) (by omega) (by omega) (by omega), f _ _ (by omega) (by omega) (by omega) (by omega), f _ _ (by omega) (by omega) (by omega) (by omega)]; exact a11 k hk
  · rw [e 37 (by omega), f _ _ (by omega) (by omega) (by omega) (by omega)]; exact a12
  · rw [e 37 (by omega)] at hk
    rw [e _ (by omega), f _ _ (by omega) (by omega) (by omega) (by omega)]; exact a13 k hk
/-- a desk's call, its ends -/
theorem dErr {f : xN → Option (Int × xN)} {sp : sSp} {R : xN} {s : Nat → Int} {H W : Nat} {g : gG} {v : Int} (w : SW s H W g) (r : DR R 2 s H W g) (hs : sp s = (v, s)) (hf : f R = some (v, R)) : (∀ j : Nat, 154 ≤ j → (sp s).2 j = s j) ∧ (err (sp s).1 → (sp s).2 = s) ∧ ∃ R', f R = some ((sp s).1, R') ∧ (∀ q j : Nat, ¬ (2 ≤ q ∧ q < 16) → ¬ (311 ≤ q ∧ q < 314) → R' q j = R q j) ∧ SD R' 2 (sp s).2 := by
  rw [hs]
  exact ⟨fun _ _ => rfl, fun _ => rfl, R, hf, fun _ _ _ _ => rfl, H, W, g, w, r⟩
theorem dOk {f : xN → Option (Int × xN)} {sp : sSp} {R R' : xN} {s s' : Nat → Int} {H W : Nat} {g : gG} {v : Int} (hs : sp s = (v, s')) (hv : ¬ err v) (hj : ∀ j : Nat, 154 ≤ j → s' j = s j) (hf : f R = some (v, R')) (fr : ∀ q j : Nat, ¬ (2 ≤ q ∧ q < 16) → ¬ (311 ≤ q ∧ q < 314) → R' q j = R q j) (w : SW s' H W g) (r : DR R' 2 s' H W g) : (∀ j : Nat, 154 ≤ j → (sp s).2 j = s j) ∧ (err (sp s).1 → (sp s).2 = s) ∧ ∃ R', f R = some ((sp s).1, R') ∧ (∀ q j : Nat, ¬ (2 ≤ q ∧ q < 16) → ¬ (311 ≤ q ∧ q < 314) → R' q j = R q j) ∧ SD R' 2 (sp s).2 := by
  rw [hs]
  exact ⟨hj, fun h => absurd h hv, R', hf, fr, H, W, g, w, r⟩
