/-! The model lays the sheet by a number. -/
theorem gall_dig : ∀ {fs : List Nat} {g g' : gG}, gall fs g = some g' → ∀ f ∈ fs, 1 ≤ f ∧ f ≤ 4 := by
  intro fs
  induction fs with
  | nil => intro g g' _ f hf; cases hf
  | cons x xs ih =>
    intro g g' h f hf
    rw [gall_cons] at h
    by_cases hx : gok x g = true
    · rw [if_pos hx] at h
      rcases List.mem_cons.mp hf with rfl | hf
      · unfold gok at hx
        rw [Bool.and_eq_true, decide_eq_true_eq] at hx
        exact hx.1
      · exact ih h f hf
    · rw [if_neg hx] at h; cases h
theorem gdk_big {n : Nat} (h : 4444 < n) (hn : n < 10000) {g g' : gG} (hg : gall (gdk 4 n) g = some g') : False := by
  rw [gdk_ge (k := 3) (by simp only [Nat.reducePow]; omega), gdk_ge (k := 2) (by simp only [Nat.reducePow]; omega), gdk_ge (k := 1) (by simp only [Nat.reducePow]; omega), gdk_ge (k := 0) (by simp only [Nat.reducePow]; omega)] at hg
  have d := gall_dig hg
  have d3 := d (n / 10 ^ 3 % 10) (by simp)
  have d2 := d (n / 10 ^ 2 % 10) (by simp)
  have d1 := d (n / 10 ^ 1 % 10) (by simp)
  have d0 := d (n / 10 ^ 0 % 10) (by simp)
  simp only [Nat.reducePow] at d0 d1 d2 d3
  omega
theorem book_iff {H W : Nat} {g : gG} (hw : GWg H W g) : 2 ^ g.2.2.1 = H * W ↔ g.1 = 1 ∧ g.2.1 = 1 := by
  obtain ⟨hH, hW, hr, hc, hk, hN, -⟩ := hw
  have hp : 0 < 2 ^ g.2.2.1 := Nat.pow_pos (by decide)
  have hk' : 2 ^ g.2.2.1 = 2 ^ g.2.2.1 := rfl
  generalize 2 ^ g.2.2.1 = d at hN hp ⊢
  have hA := area_le hH hW
  generalize H * W = N at hN hA ⊢
  rcases hr with h | h | h <;> rcases hc with h' | h' | h' <;> rw [h, h'] at hN ⊢ <;> omega
theorem gdk_up {n K : Nat} (h : n < 10 ^ K) (hK : K ≤ 4) : gdk 4 n = gdk K n := by
  have : ∀ j, K + j ≤ 4 → gdk (K + j) n = gdk K n := by
    intro j
    induction j with
    | zero => intro _; rfl
    | succ j ih =>
      intro hj
      rw [show K + (j + 1) = (K + j) + 1 from rfl, gdk_lt (Nat.lt_of_lt_of_le h (Nat.pow_le_pow_right (by decide) (Nat.le_add_right _ _)))]
      exact ih (Nat.le_of_succ_le hj)
  have h4 := this (4 - K) (by omega)
  rw [show K + (4 - K) = 4 by omega] at h4
  exact h4
theorem gbk_0 {H W : Nat} : gbk H W 0 = if H = 1 ∧ W = 1 then some (gg0 H W) else none := by
  unfold gbk
  rw [if_pos ⟨by decide, by decide⟩, show ((0 : Int)).toNat = 0 from rfl, show gdk 4 0 = [] from rfl, gall, Option.bind_some]
  rfl
