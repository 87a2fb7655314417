/-! The relation between a desk and a row of the model. -/
def pl (W k : Nat) : Nat := 2 * (4 * (k / 2 / W) + k / 2 % W) + k % 2
def nine (v : Int) : Int := if v < 0 then -9 else v
/-- set bits of a small number -/
def ones (n : Nat) : Nat := (List.range 10).foldl (fun c i => c + n / 2 ^ i % 2) 0
/-- a row of the model is well -/
def SW (s : Nat → Int) (H W : Nat) (g : gG) : Prop :=
  len H ∧ len W ∧ s 0 = (H : Int) ∧ s 1 = (W : Int) ∧ (0 ≤ s 2 ∧ s 2 ≤ 4) ∧ (∀ i : Nat, (i : Int) < s 2 → 0 ≤ s (3 + i)) ∧ gall (gfs s) (gg0 H W) = some g ∧
  (s 7 = 0 ∨ s 7 = 1) ∧ (0 ≤ s 8 ∧ s 8 ≤ 15) ∧ (0 ≤ s 9 ∧ s 9 ≤ 1023 ∧ ones (s 9).toNat ≤ 3) ∧ (1 ≤ s 10 ∧ s 10 ≤ 16) ∧ (1 ≤ s 11 ∧ s 11 ≤ 9) ∧
  (0 ≤ s 12 ∧ s 12 ≤ 8) ∧ (∀ k : Nat, (k : Int) < s 12 → (0 ≤ s (13 + 3 * k) ∧ s (13 + 3 * k) < 2 * ((H * W : Nat) : Int)) ∧ (0 ≤ s (14 + 3 * k) ∧ s (14 + 3 * k) ≤ 31) ∧ (s (15 + 3 * k) = 0 ∨ s (15 + 3 * k) = 1)) ∧
  (0 ≤ s 37 ∧ s 37 ≤ 12) ∧ (∀ k : Nat, (k : Int) < s 37 → (0 ≤ s (38 + 4 * k) ∧ s (38 + 4 * k) ≤ 99) ∧ (0 ≤ s (39 + 4 * k) ∧ s (39 + 4 * k) ≤ 9) ∧ (1 ≤ s (40 + 4 * k) ∧ s (40 + 4 * k) ≤ 20) ∧ (s (41 + 4 * k) = 0 ∨ s (41 + 4 * k) = 1)) ∧
  ∀ k : Nat, k < 32 → (-1 ≤ s (90 + k) ∧ s (90 + k) ≤ 31) ∧ (s (122 + k) = 0 ∨ s (122 + k) = 1)
/-- a desk at d is a row of the model -/
def DR (R : xN) (d : Nat) (s : Nat → Int) (H W : Nat) (g : gG) : Prop :=
  R (d + 1) 0 = (H : Int) ∧ R (d + 1) 1 = (W : Int) ∧ (∀ k : Nat, k < 2 * (H * W) → R (d + 2) (pl W k) = nine (s (90 + k)) ∧ R (d + 3) (pl W k) = s (122 + k)) ∧ LRg R (d + 4) H W g (gfn 0 (gfs s)) ∧
  R d 5 = s 7 ∧ R d 6 = s 8 ∧ R d 7 = s 9 ∧ R d 8 = s 10 ∧ R d 9 = s 11 ∧ R (d + 7) 3 = s 12 ∧ (∀ k : Nat, (k : Int) < s 12 → R (d + 8) k = s (13 + 3 * k) ∧ R (d + 9) k = s (14 + 3 * k) ∧ R (d + 10) k = s (15 + 3 * k)) ∧
  R (d + 11) 1 = s 37 ∧ (∀ k : Nat, (k : Int) < 4 * s 37 → R (d + 12) k = s (38 + k)) ∧ ∀ k : Nat, k < 4 → R (d + 13) k = s (86 + k)
theorem pl_lt {H W k : Nat} (hH : len H) (hW : len W) (hk : k < 2 * (H * W)) : pl W k < 32 := by
  unfold pl
  rcases hH with rfl | rfl | rfl <;> rcases hW with rfl | rfl | rfl <;> omega
theorem gfs_sg {s s' : Nat → Int} (h2 : s' 2 = s 2) (h : ∀ i : Nat, (i : Int) < s 2 → s' (3 + i) = s (3 + i)) : gfs s' = gfs s := by
  unfold gfs
  rw [h2]
  apply List.map_congr_left
  intro i hi
  rw [h i (by have := List.mem_range.mp hi; omega)]
theorem SW.sg {s s' : Nat → Int} {H W : Nat} {g : gG} (h : SW s H W g) (e : ∀ j : Nat, j < 154 → s' j = s j) : SW s' H W g := by
  obtain ⟨a1, a2, a3, a4, a5, a6, a7, a8, a9, a10, a11, a12, a13, a14, a15, a16, a17⟩ := h
  refine ⟨a1, a2, ?_, ?_, ?_, fun i hi => ?_, ?_, ?_, ?_, ?_, ?_, ?_, ?_, fun k hk => ?_, ?_, fun k hk => ?_, fun k hk => ?_⟩
  · rw [e 0 (by omega)]; exact a3
  · rw [e 1 (by omega)]; exact a4
  · rw [e 2 (by omega)]; exact a5
  · rw [e 2 (by omega)] at hi; rw [e _ (by omega)]; exact a6 i hi
  · rw [gfs_sg (e 2 (by omega)) (fun i hi => e _ (by omega))]; exact a7
  · rw [e 7 (by omega)]; exact a8
  · rw [e 8 (by omega)]; exact a9
  · rw [e 9 (by omega)]; exact a10
  · rw [e 10 (by omega)]; exact a11
  · rw [e 11 (by omega)]; exact a12
  · rw [e 12 (by omega)]; exact a13
  · rw [e 12 (by omega)] at hk
    rw [e _ (by omega), e (14 + 3 * k) (by omega), e (15 + 3 * k) (by omega)]; exact a14 k hk
  · rw [e 37 (by omega)]; exact a15
  · rw [e 37 (by omega)] at hk
    rw [e _ (by omega), e (39 + 4 * k) (by omega), e (40 + 4 * k) (by omega), e (41 + 4 * k) (by omega)]; exact a16 k hk
  · rw [e _ (by omega), e (122 + k) (by omega)]; exact a17 k hk
theorem DR.sg {R : xN} {d : Nat} {s s' : Nat → Int} {H W : Nat} {g : gG} (h : DR R d s H W g) (w : SW s H W g) (e : ∀ j : Nat, j < 154 → s' j = s j) : DR R d s' H W g := by
  obtain ⟨a1, a2, a3, a4, a5, a6, a7, a8, a9, a10, a11, a12, a13, a14⟩ := h
  obtain ⟨w1, w2, w3, w4, w5, w6, w7, w8, w9, w10, w11, w12, w13, w14, w15, w16, w17⟩ := w
  have hA := area_le w1 w2
  refine ⟨a1, a2, fun k hk => ?_, ?_, ?_, ?_, ?_, ?_, ?_, ?_, fun k hk => ?_, ?_, fun k hk => ?_, fun k hk => ?_⟩
  · rw [e _ (by omega), e (122 + k) (by omega)]; exact a3 k hk
  · rw [gfs_sg (e 2 (by omega)) (fun i hi => e _ (by omega))]; exact a4
  · rw [e 7 (by omega)]; exact a5
  · rw [e 8 (by omega)]; exact a6
  · rw [e 9 (by omega)]; exact a7
  · rw [e 10 (by omega)]; exact a8
  · rw [e 11 (by omega)]; exact a9
  · rw [e 12 (by omega)]; exact a10
  · rw [e 12 (by omega)] at hk
    rw [e _ (by omega), e (14 + 3 * k) (by omega), e (15 + 3 * k) (by omega)]; exact a11 k hk
  · rw [e 37 (by omega)]; exact a12
  · rw [e 37 (by omega)] at hk
    rw [e _ (by omega)]; exact a13 k hk
  · rw [e _ (by omega)]; exact a14 k hk
theorem DR.mv {R R' : xN} {a b : Nat} {s : Nat → Int} {H W : Nat} {g : gG} (h : DR R b s H W g) (w : SW s H W g) (e : ∀ k j : Nat, k < 14 → dc k j = true → R' (a + k) j = R (b + k) j) : DR R' a s H W g := by
  obtain ⟨a1, a2, a3, a4, a5, a6, a7, a8, a9, a10, a11, a12, a13, a14⟩ := h
  obtain ⟨w1, w2, w3, w4, w5, w6, w7, w8, w9, w10, w11, w12, w13, w14, w15, w16, w17⟩ := w
  have hA := area_le w1 w2
  have e0 := fun j h => e 0 j (by omega) h
  have e1 := fun j h => e 1 j (by omega) h
  have e2 := fun j h => e 2 j (by omega) h
  have e3 := fun j h => e 3 j (by omega) h
  have e4 := fun j h => e 4 j (by omega) h
  have e5 := fun j h => e 5 j (by omega) h
  have e7 := fun j h => e 7 j (by omega) h
  have e8 := fun j h => e 8 j (by omega) h
  have e9 := fun j h => e 9 j (by omega) h
  have e10 := fun j h => e 10 j (by omega) h
  have e11 := fun j h => e 11 j (by omega) h
  have e12 := fun j h => e 12 j (by omega) h
  have e13 := fun j h => e 13 j (by omega) h
  simp only [Nat.add_zero] at e0
  refine ⟨?_, ?_, fun k hk => ?_, ⟨?_, ?_, ?_, ?_, ?_, ?_, fun i hi => ?_⟩, ?_, ?_, ?_, ?_, ?_, ?_, fun k hk => ?_, ?_, fun k hk => ?_, fun k hk => ?_⟩
  · rw [e1 0 (by decide)]; exact a1
  · rw [e1 1 (by decide)]; exact a2
  · have hp := pl_lt w1 w2 hk
    rw [e2 _ (decide_eq_true hp), e3 _ (decide_eq_true hp)]; exact a3 k hk
  · rw [e4 0 (by decide)]; exact a4.1
  · rw [e4 1 (by decide)]; exact a4.2.1
  · rw [e4 2 (by decide)]; exact a4.2.2.1
  · rw [e4 3 (by decide)]; exact a4.2.2.2.1
  · rw [e4 4 (by decide)]; exact a4.2.2.2.2.1
  · rw [e4 5 (by decide)]; exact a4.2.2.2.2.2.1
  · show R' (a + 5) i = _
    rw [e5 i (decide_eq_true (by omega))]; exact a4.2.2.2.2.2.2 i hi
  · rw [e0 5 (by decide)]; exact a5
  · rw [e0 6 (by decide)]; exact a6
  · rw [e0 7 (by decide)]; exact a7
  · rw [e0 8 (by decide)]; exact a8
  · rw [e0 9 (by decide)]; exact a9
  · rw [e7 3 (by decide)]; exact a10
  · have hk8 : k < 8 := by omega
    rw [e8 k (decide_eq_true hk8), e9 k (decide_eq_true hk8), e10 k (decide_eq_true hk8)]; exact a11 k hk
  · rw [e11 1 (by decide)]; exact a12
  · have hk8 : k < 48 := by omega
    rw [e12 k (decide_eq_true hk8)]; exact a13 k hk
  · rw [e13 k (decide_eq_true hk)]; exact a14 k hk
def SD (R : xN) (d : Nat) (s : Nat → Int) : Prop := ∃ (H W : Nat) (g : gG), SW s H W g ∧ DR R d s H W g
theorem SD.sg {R : xN} {d : Nat} {s s' : Nat → Int} (h : SD R d s) (e : ∀ j : Nat, j < 154 → s' j = s j) : SD R d s' := by
  obtain ⟨H, W, g, w, r⟩ := h
  exact ⟨H, W, g, w.sg e, r.sg w e⟩
theorem SD.mv {R R' : xN} {a b : Nat} {s : Nat → Int} (h : SD R b s) (e : ∀ k j : Nat, k < 14 → dc k j = true → R' (a + k) j = R (b + k) j) : SD R' a s := by
  obtain ⟨H, W, g, w, r⟩ := h
  exact ⟨H, W, g, w, r.mv w e⟩
/-- the part of a row that is a snapshot -/
def shot (s : Nat → Int) (k : Nat) : Nat → Int := fun j => s (156 + 154 * k + j)
/-- a state at t is a whole row of the model -/
def SR (R : xN) (t : Nat) (s : Nat → Int) : Prop := SD R (t + 1) s ∧ (s 154 = 0 ∨ s 154 = 1) ∧ (s 155 = 0 ∨ s 155 = 1) ∧ R t 2 = s 154 + 2 * s 155 ∧ ∀ k : Nat, k < 2 → s (154 + k) = 1 → SD R (t + 16 + 14 * k) (shot s k)
theorem SR.sg {R : xN} {t : Nat} {s s' : Nat → Int} (h : SR R t s) (e : ∀ j : Nat, j < 464 → s' j = s j) : SR R t s' := by
  obtain ⟨h1, h2, h3, h4, h5⟩ := h
  refine ⟨h1.sg (fun j hj => e j (by omega)), ?_, ?_, ?_, fun k hk hs => ?_⟩
  · rw [e 154 (by omega)]; exact h2
  · rw [e 155 (by omega)]; exact h3
  · rw [e 154 (by omega), e 155 (by omega)]; exact h4
  · rw [e _ (by omega)] at hs
    exact (h5 k hk hs).sg (fun j hj => e _ (by omega))
theorem SR.fil {R : xN} {t : Nat} {s : Nat → Int} (h : SR R t s) : sFil R t := by
  obtain ⟨-, h2, h3, h4, -⟩ := h
  unfold sFil
  rw [h4]
  omega
theorem SR.eq {R R' : xN} {a b : Nat} {s : Nat → Int} (h : SR R b s) (e : sEq R' R a b) : SR R' a s := by
  obtain ⟨h1, h2, h3, h4, h5⟩ := h
  refine ⟨h1.mv e.2.1, h2, h3, by rw [e.1]; exact h4, fun k hk hs => ?_⟩
  refine (h5 k hk hs).mv (e.2.2 k hk ?_)
  rw [h4]
  have : k = 0 ∨ k = 1 := by omega
  unfold sbit
  rcases this with rfl | rfl
  · rw [if_pos rfl]; apply decide_eq_true
    have : s 154 = 1 := hs
    omega
  · rw [if_neg (by decide)]; apply decide_eq_true
    have : s 155 = 1 := hs
    omega
theorem SR.out {R R' : xN} {a : Nat} {s : Nat → Int} (h : SR R a s) (e : ∀ q j : Nat, a ≤ q → q < a + 44 → R' q j = R q j) : SR R' a s := h.eq (sEq.of e)
/-- the invariant between the class's rows and the model's -/
def Inv (R : xN) : Prop := SR R 1 (R 324) ∧ iHist R ∧ iText R ∧ R 323 6 = 0 ∧ R 323 3 = R 45 1 ∧ ∀ k : Nat, (k : Int) < R 45 1 → SR R (R 46 k).toNat (fun j => R 325 (464 * k + j))

