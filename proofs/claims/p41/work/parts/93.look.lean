/-! Looking: count, side, layer, effort. -/
/-- nothing but what is of no matter behind a call -/
def kSc (R R' : xN) : Prop := ∀ q j : Nat, ¬ (311 ≤ q ∧ q < 319) → ¬ (q = 323 ∧ j ≠ 3 ∧ j ≠ 4 ∧ j ≠ 6) → ¬ (328 ≤ q) → R' q j = R q j
theorem kSc.trans {R R1 R2 : xN} (h : kSc R R1) (g : kSc R1 R2) : kSc R R2 := fun q j h1 h2 h3 => by rw [g q j h1 h2 h3, h q j h1 h2 h3]
theorem kLay.sc {R R' : xN} (h : kLay R R') : kSc R R' := fun q j h1 h2 h3 => h q j (by omega) (by omega)
theorem Inv.sc {R R' : xN} (hI : Inv R) (h : kSc R R') : Inv R' := by
  obtain ⟨i1, i2, i3, i4, i5, i6⟩ := hI
  have lo : ∀ q j : Nat, q < 311 → R' q j = R q j := fun q j hq => h q j (by omega) (by omega) (by omega)
  have h324 : R' 324 = R 324 := funext fun j => h 324 j (by omega) (by omega) (by omega)
  refine ⟨?_, i2.of (lo 45 1 (by omega)) (fun k _ => lo 46 k (by omega)), i3.of (lo 0 5 (by omega)) (h 323 4 (by omega) (by omega) (by omega)) (fun j => h 319 j (by omega) (by omega) (by omega)) (fun j => h 327 j (by omega) (by omega) (by omega)), ?_, ?_, fun k hk => ?_⟩
  · rw [h324]; exact i1.out (fun q j h1 h2 => lo q j (by omega))
  · rw [h 323 6 (by omega) (by omega) (by omega)]; exact i4
  · rw [h 323 3 (by omega) (by omega) (by omega), lo 45 1 (by omega)]; exact i5
  · rw [lo 45 1 (by omega)] at hk
    have h325 : (fun j => R' 325 (464 * k + j)) = fun j => R 325 (464 * k + j) := funext fun j => h 325 _ (by omega) (by omega) (by omega)
    rw [h325, lo 46 k (by omega)]
    obtain ⟨ik, hik, hek⟩ := i2.2.2.1 k (by have := i2.2.1; omega)
    have := i6 k hk
    rw [hek, Int.toNat_natCast] at this ⊢
    exact this.out (fun q j h1 h2 => lo q j (by omega))
theorem lb_of {R : xN} {b H W fn : Nat} {g : gG} (hw : GWg H W g) (l : LRg R b H W g fn) (hb : g.1 = 1 ∧ g.2.1 = 1) : LB R b H W g.2.2.2 := by
  have hA := area_le hw.1 hw.2.1
  have ht := hw.2.2.2.2.2.2
  refine ⟨⟨hA, fun i hi => ⟨(ht i hi).1, l.2.2.2.2.2.2 i hi⟩, ?_⟩, fun i hi => (ht i hi).2⟩
  rw [dep9 l hw, (book_iff hw).mpr hb]
theorem pr_of {R : xN} {s : Nat → Int} {H W : Nat} {g : gG} (w : SW s H W g) (r : DR R 2 s H W g) : PR R s H W := by
  obtain ⟨k1, k2, k3, k4, k5, k6, k7, k8, k9, k10, k11, k12, k13, k14, k15, k16, k17⟩ := w
  obtain ⟨r1, r2, r3, r4, r5, r6, r7, r8, r9, r10, r11, r12, r13, r14⟩ := r
  have hA := area_le k1 k2
  exact ⟨k1, k2, r5, fun k hk => ⟨r3 k hk, (k17 k (by omega)).1⟩⟩
theorem gfn_ge : ∀ {fs : List Nat} {n : Nat}, n ≤ gfn n fs := by
  intro fs
  induction fs with
  | nil => intro n; exact Nat.le_refl _
  | cons f fs ih =>
    intro n
    have := ih (n := n * 10 + f)
    show n ≤ gfn (n * 10 + f) fs
    omega
theorem eff9 {R : xN} {s : Nat → Int} (h : ∀ k : Nat, k < 4 → R 15 k = s (86 + k)) {k : Nat} (hk : k < 4) : f_X0_effortOf 2 (k : Int) R = some (s (86 + k)) := by
  unfold f_X0_effortOf
  rw [in9, Option.bind_some, if_pos (decide_eq_true (by omega)), if_pos (by omega), tnc]
  exact congrArg some (h k hk)
theorem pl_rc {H W r c b : Nat} (hH : len H) (hW : len W) (hr : r < H) (hc : c < W) (hb : b < 2) : pl W (2 * (W * r + c) + b) = 2 * (4 * r + c) + b ∧ 2 * (W * r + c) + b < 2 * (H * W) := by
  unfold pl
  rcases hH with rfl | rfl | rfl <;> rcases hW with rfl | rfl | rfl <;> omega
/-- a side told by row, column and side -/
theorem sd_num {H W r c b : Nat} (hH : len H) (hW : len W) (hr : r < H) (hc : c < W) (hb : b < 2) : Qe (w4 (w4 (w4 (w4 ((r : Int) * 4) + (c : Int)) * 2) + (b : Int))) ((pl W (2 * (W * r + c) + b) : Nat) : Int) ∧ Qe (w4 (w4 (2 * w4 (w4 ((W : Int) * (r : Int)) + (c : Int))) + (b : Int))) ((2 * (W * r + c) + b : Nat) : Int) := by
  have h1 := pl_rc hH hW hr hc hb
  rw [h1.1]
  have hr4 : r < 4 := by rcases hH with rfl | rfl | rfl <;> omega
  have hc4 : c < 4 := by rcases hW with rfl | rfl | rfl <;> omega
  refine ⟨?_, ?_⟩
  · unfold Qe
    rw [w4_of (x := (r : Int) * 4) (by omega), w4_of (x := (r : Int) * 4 + _) (by omega), w4_of (x := _ * 2) (by omega), w4_of (by omega)]
    omega
  · unfold Qe
    rcases hW with rfl | rfl | rfl
    all_goals
      rw [w4_of (x := _ * (r : Int)) (by omega), w4_of (x := _ + (c : Int)) (by omega), w4_of (x := 2 * _) (by omega), w4_of (by omega)]
      omega
