/-! Other folds: readsBy, cutsFor; sights. -/
theorem gdk_len : ∀ {k n : Nat}, (gdk k n).length ≤ k := by
  intro k
  induction k with
  | zero => intro n; exact Nat.le_refl _
  | succ k ih =>
    intro n
    by_cases h : n < 10 ^ k
    · rw [gdk_lt h]; exact Nat.le_succ_of_le ih
    · rw [gdk_ge h, List.length_cons]; exact Nat.succ_le_succ ih
theorem gbk_some {H W : Nat} {i : Int} {g : gG} (h : gbk H W i = some g) : 0 ≤ i ∧ i ≤ 4444 ∧ gall (gdk 4 i.toNat) (gg0 H W) = some g ∧ g.1 = 1 ∧ g.2.1 = 1 := by
  unfold gbk at h
  by_cases hi : 0 ≤ i ∧ i ≤ 4444
  · rw [if_pos hi] at h
    cases hg : gall (gdk 4 i.toNat) (gg0 H W) with
    | none => rw [hg] at h; cases h
    | some g' =>
      rw [hg, Option.bind_some] at h
      by_cases hb : g'.1 = 1 ∧ g'.2.1 = 1
      · rw [if_pos hb] at h
        cases h
        exact ⟨hi.1, hi.2, rfl, hb.1, hb.2⟩
      · rw [if_neg hb] at h; cases h
  · rw [if_neg hi] at h; cases h
theorem gbk_w {H W : Nat} {i : Int} {g : gG} (hH : len H) (hW : len W) (h : gbk H W i = some g) : GWg H W g := (gg0_w hH hW).all (gbk_some h).2.2.1
/-- the pages in order from one on -/
def opg (s : Nat → Int) (W : Nat) (t : Nat → Nat) : Nat → Nat → Nat
  | p, 0 => p
  | p, c + 1 => if s (90 + kS W (t (p / 2)) p) = (p : Int) ∧ s (122 + kS W (t (p / 2)) p) = (tU s (t (p / 2)) p : Int) then opg s W t (p + 1) c else p
theorem opn_le {s : Nat → Int} {W : Nat} {t : Nat → Nat} : ∀ (c p : Nat), p ≤ opg s W t p c ∧ opg s W t p c ≤ p + c := by
  intro c
  induction c with
  | zero => intro p; exact ⟨Nat.le_refl _, Nat.le_refl _⟩
  | succ c ih =>
    intro p
    have := ih (p + 1)
    unfold opg
    split <;> omega
theorem opn9 {R : xN} {s : Nat → Int} {b H W : Nat} {t : Nat → Nat} {X : Int → Option Int} (hP : PR R s H W) (h : LB R b H W t) (hX : X (2 * ((H * W : Nat) : Int)) = some (2 * ((H * W : Nat) : Int))) : ∀ (n c p : Nat), c < n → p + c = 2 * (H * W) → lp_X0_pagesInOrder_2 2 b R n (p : Int) X = some (opg s W t p c : Int) := by
  intro n
  induction n with
  | zero => intro c p h; omega
  | succ n ih =>
    intro c p h1 h2
    have hD := h.1.1
    have e5 : Qe (w4 ((p : Int) + 1)) ((p + 1 : Nat) : Int) := by unfold Qe; rw [w4_of (by omega)]; omega
    rw [lp_X0_pagesInOrder_2, lastp h.1, Option.bind_some]
    cases c with
    | zero =>
      have hp : (p : Int) = 2 * ((H * W : Nat) : Int) := by omega
      rw [if_pos (by omega), hp, hX]
      show _ = some (p : Int)
      rw [hp]
    | succ c =>
      have hp : p < 2 * (H * W) := by omega
      rw [if_neg (by omega), num9 hP h hp, Option.bind_some]
      unfold opg
      by_cases c1 : s (90 + kS W (t (p / 2)) p) = (p : Int)
      · rw [if_pos (nine_p.mpr c1), upr9 hP h hp, Option.bind_some]
        by_cases c2 : s (122 + kS W (t (p / 2)) p) = (tU s (t (p / 2)) p : Int)
        · rw [decide_eq_true c2, if_pos rfl, xlet_eq, e5.eq, if_pos ⟨c1, c2⟩]
          exact ih c (p + 1) (by omega) (by omega)
        · rw [decide_eq_false c2, if_neg (by decide), if_neg (fun a => c2 a.2)]
      · rw [if_neg (fun a => c1 (nine_p.mp a)), if_neg (fun a => c1 a.1)]
theorem pio9 {R : xN} {s : Nat → Int} {b H W : Nat} {t : Nat → Nat} (hP : PR R s H W) (h : LB R b H W t) : f_X0_pagesInOrder 2 b R = some (opg s W t 0 (2 * (H * W)) : Int) := by
  have hD := h.1.1
  have e1 : Qe (w4 (2 * ((H * W : Nat) : Int) - 1 + 1)) (2 * ((H * W : Nat) : Int)) := by unfold Qe; rw [w4_of (by omega)]; omega
  have := opn9 (X := fun z8 => (f_X3_lastPage b R).bind (fun v9 => some (w4 (v9 + 1)))) hP h (by rw [lastp h.1, Option.bind_some, e1.eq]) 6000 (2 * (H * W)) 0 (by omega) (by omega)
  unfold f_X0_pagesInOrder
  exact this
/-- the class's trial -/
def kTri (R R' : xN) : Prop := ∀ q j : Nat, ¬ (311 ≤ q ∧ q < 314) → R' q j = R q j
theorem kTri.sc {R R' : xN} (h : kTri R R') : kSc R R' := fun q j h1 h2 h3 => h q j (by omega)
theorem DR.fr {R R' : xN} {s : Nat → Int} {H W : Nat} {g : gG} (h : DR R 2 s H W g) (w : SW s H W g) (e : ∀ q j : Nat, 2 ≤ q → q < 16 → R' q j = R q j) : DR R' 2 s H W g := h.mv w (fun k j hk _ => e _ j (by omega) (by omega))
/-- a sight that is shown -/
def snB (s : Nat → Int) (W : Nat) (t : Nat → Nat) (k : Nat) : Bool := decide (s (90 + kS W (t ((s (13 + 3 * k)).toNat / 2)) (s (13 + 3 * k)).toNat) = s (14 + 3 * k)) && (decide (s (122 + kS W (t ((s (13 + 3 * k)).toNat / 2)) (s (13 + 3 * k)).toNat) = (tU s (t ((s (13 + 3 * k)).toNat / 2)) (s (13 + 3 * k)).toNat : Int)) == decide (s (15 + 3 * k) = 0))
def snA (s : Nat → Int) (W : Nat) (t : Nat → Nat) : Nat → Nat → Bool
  | _, 0 => true
  | k, c + 1 => snB s W t k && snA s W t (k + 1) c
theorem xzq1 {b : Bool} : xz b = 1 ↔ b = true := by cases b <;> decide
theorem xzq0 {b : Bool} : xz b = 0 ↔ b = false := by cases b <;> decide
theorem see9 {R : xN} {s : Nat → Int} {b H W m : Nat} {t : Nat → Nat} {X : Int → Option Bool} (hP : PR R s H W) (h : LB R b H W t) (hm : m ≤ 8) (hs : ∀ k : Nat, k < m → (0 ≤ s (13 + 3 * k) ∧ s (13 + 3 * k) < 2 * ((H * W : Nat) : Int)) ∧ 0 ≤ s (14 + 3 * k)) (h3 : R 9 3 = (m : Int)) (hr : ∀ k : Nat, k < m → R 10 k = s (13 + 3 * k) ∧ R 11 k = s (14 + 3 * k) ∧ R 12 k = s (15 + 3 * k)) (hX : ∀ z, X z = some true) : ∀ (n c k : Nat), c < n → k + c = m → lp_X0_showsAllSights_2 2 b R n (k : Int) X = some (snA s W t k c) := by
  intro n
  induction n with
  | zero => intro c k h; omega
  | succ n ih =>
    intro c k h1 h2
    rw [lp_X0_showsAllSights_2, show 2 + 7 = 9 from rfl, h3]
    cases c with
    | zero => rw [if_pos (by omega), hX]; rfl
    | succ c =>
      have hk8 : (0 : Int) ≤ (k : Int) ∧ (k : Int) < 8 := by omega
      obtain ⟨⟨s1, s1'⟩, s2⟩ := hs k (by omega)
      obtain ⟨r1, r2, r3⟩ := hr k (by omega)
      obtain ⟨p, hp⟩ := Int.eq_ofNat_of_zero_le s1
      have hp' : p < 2 * (H * W) := by omega
      have hpt : (s (13 + 3 * k)).toNat = p := by omega
      have e5 : Qe (w4 ((k : Int) + 1)) ((k + 1 : Nat) : Int) := by unfold Qe; rw [w4_of (by omega)]; omega
      have hv := hP.2.2.2 _ (kS_pl hP h hp').2
      have hn : ∀ y : Int, 0 ≤ y → (nine (s (90 + kS W (t (p / 2)) p)) = y ↔ s (90 + kS W (t (p / 2)) p) = y) := fun y hy => by unfold nine; split <;> omega
      rw [if_neg (by omega), if_neg (by omega), if_pos hk8, xlet_eq, if_pos hk8, tnc, show R (2 + 10) k = _ from r3, show R (2 + 8) k = _ from r1, hp, show R (2 + 9) k = _ from r2]
      show _ = some (snB s W t k && snA s W t (k + 1) c)
      unfold snB
      rw [hpt]
      have N9 : f_X0_numberOn 2 b (Int.ofNat p) R = some (nine (s (90 + kS W (t (p / 2)) p))) := num9 hP h hp'
      have U9 : f_X0_isUpright 2 b (Int.ofNat p) R = some (decide (s (122 + kS W (t (p / 2)) p) = (tU s (t (p / 2)) p : Int))) := upr9 hP h hp'
      have I := ih c (k + 1) (by omega) (by omega)
      first
        | rw [N9, U9]
        | rw [num9 hP h hp', upr9 hP h hp']
      by_cases c1 : s (90 + kS W (t (p / 2)) p) = s (14 + 3 * k)
      · rw [decide_eq_true c1, Bool.true_and]
        by_cases c3 : s (15 + 3 * k) = 0
        · rw [if_pos c3, Option.bind_some, if_pos hk8, if_pos ((hn _ s2).mpr c1), Option.bind_some, decide_eq_true c3]
          by_cases c2 : s (122 + kS W (t (p / 2)) p) = (tU s (t (p / 2)) p : Int)
          · rw [decide_eq_true c2, if_pos (xzq1.mpr rfl), xlet_eq, e5.eq, I]; rfl
          · rw [decide_eq_false c2, if_neg (fun h => by cases xzq1.mp h)]; rfl
        · rw [if_neg c3, Option.bind_some, if_pos hk8, if_pos ((hn _ s2).mpr c1), Option.bind_some, decide_eq_false c3]
          by_cases c2 : s (122 + kS W (t (p / 2)) p) = (tU s (t (p / 2)) p : Int)
          · rw [decide_eq_true c2, if_neg (fun h => by cases xzq0.mp h)]; rfl
          · rw [decide_eq_false c2, if_pos (xzq0.mpr rfl), xlet_eq, e5.eq, I]; rfl
      · rw [decide_eq_false c1, Bool.false_and, Bool.false_and]
        by_cases c3 : s (15 + 3 * k) = 0
        · rw [if_pos c3, Option.bind_some, if_pos hk8, if_neg (fun h => c1 ((hn _ s2).mp h))]
        · rw [if_neg c3, Option.bind_some, if_pos hk8, if_neg (fun h => c1 ((hn _ s2).mp h))]
