/-! The model lays the sheet by a number. -/
theorem mby0 {m : Nat} {p y : Int} {R : xN} {X : Int → xN → Option (Bool × xN)} (h1 : ¬ p ≤ 0) (h2 : ¬ y ≤ 0) (h3 : y ≠ 0) : lp_X10_layBy_56 323 p (m + 1) y R X = (f_X10_in (Int.tmod (w4 (Int.tdiv p y)) 10) 1 4 R).bind (fun v11 => if v11 = true then (f_X10_mayFold 323 (Int.tmod (w4 (Int.tdiv p y)) 10) R).bind (fun v13 => if v13 = true then (f_X10_foldBy 323 (Int.tmod (w4 (Int.tdiv p y)) 10) R).bind (fun v15 => lp_X10_layBy_56 323 p m (w4 (Int.tdiv y 10)) v15 X) else some (false, R)) else some (false, R)) := by
  rw [lp_X10_layBy_56, if_neg h1, if_neg h2, if_pos h3]
  rfl
theorem mby_step {H W n m P U d : Nat} {R : xN} {g : gG} {X : Int → xN → Option (Bool × xN)} (hn : 0 < n) (hP : 0 < P) (hst : Qe (w4 (Int.tdiv (P : Int) 10)) (U : Int)) (hd : Qe (Int.tmod (w4 (Int.tdiv (n : Int) (P : Int))) 10) (d : Int)) (hM : MRg R H W g) : lp_X10_layBy_56 323 (n : Int) (m + 1) (P : Int) R X = if gok d g = true then (f_X10_foldBy 323 (d : Int) R).bind (fun v15 => lp_X10_layBy_56 323 (n : Int) m (U : Int) v15 X) else some (false, R) := by
  have h1 : ¬ (n : Int) ≤ 0 := by omega
  have h2 : ¬ (P : Int) ≤ 0 := by omega
  have h3 : (P : Int) ≠ 0 := by omega
  rw [mby0 h1 h2 h3]
  unfold Qe at hst hd
  rw [hd, in10, Option.bind_some, hst]
  by_cases hf : 1 ≤ d ∧ d ≤ 4
  · rw [if_pos (decide_eq_true (by omega)), may_eq hf hM, Option.bind_some]
  · have e1 : gok d g = false := by unfold gok; rw [decide_eq_false hf]; rfl
    rw [if_neg (by rw [decide_eq_false (by omega)]; decide), e1, if_neg (by decide)]
def mres (H W n k m : Nat) (R : xN) (g : gG) (R' : xN) : Prop := (∃ g', gall (gdk k n) g = some g' ∧ (∀ X : Int → xN → Option (Bool × xN), lp_X10_layBy_56 323 (n : Int) m (gun k : Int) R X = X 0 R') ∧ MRg R' H W g') ∨ (gall (gdk k n) g = none ∧ ∀ X : Int → xN → Option (Bool × xN), lp_X10_layBy_56 323 (n : Int) m (gun k : Int) R X = some (false, R'))
theorem mres_ge {H W n k m : Nat} {R R1 R' : xN} {g : gG} (h0 : 0 < n) (hn : n < 10000) (hk : k < 4) (hlt : ¬ n < 10 ^ k) (hM : MRg R H W g) (hf : gok (n / 10 ^ k % 10) g = true) (ha : f_X10_foldBy 323 ((n / 10 ^ k % 10 : Nat) : Int) R = some R1) (h : mres H W n k m R1 (gput (n / 10 ^ k % 10) g) R') : mres H W n (k + 1) (m + 1) R g R' := by
  have hst := gun_step k hk
  rw [gun_pos] at hst
  have hX : ∀ X : Int → xN → Option (Bool × xN), lp_X10_layBy_56 323 (n : Int) (m + 1) ((10 ^ k : Nat) : Int) R X = lp_X10_layBy_56 323 (n : Int) m (gun k : Int) R1 X := fun X => by
    rw [mby_step h0 pow_pos10 hst (tdigq hk hn) hM, if_pos hf, ha, Option.bind_some]
  unfold mres at h ⊢
  rw [gdk_ge hlt, gun_pos, gall_cons, if_pos hf]
  rcases h with ⟨g', h1, h2, h3⟩ | ⟨h1, h2⟩
  · exact Or.inl ⟨g', h1, fun X => (hX X).trans (h2 X), h3⟩
  · exact Or.inr ⟨h1, fun X => (hX X).trans (h2 X)⟩
theorem mres_no {H W n k m : Nat} {R : xN} {g : gG} (h0 : 0 < n) (hn : n < 10000) (hk : k < 4) (hlt : ¬ n < 10 ^ k) (hM : MRg R H W g) (hf : ¬ gok (n / 10 ^ k % 10) g = true) : mres H W n (k + 1) (m + 1) R g R := by
  have hst := gun_step k hk
  rw [gun_pos] at hst
  unfold mres
  rw [gdk_ge hlt, gun_pos, gall_cons, if_neg hf]
  exact Or.inr ⟨rfl, fun X => by rw [mby_step h0 pow_pos10 hst (tdigq hk hn) hM, if_neg hf]⟩
theorem mby_end0 {n m : Nat} {R : xN} {X : Int → xN → Option (Bool × xN)} : lp_X10_layBy_56 323 (n : Int) (m + 1) ((gun 0 : Nat) : Int) R X = X 0 R := by
  rw [lp_X10_layBy_56, show ((gun 0 : Nat) : Int) = 0 from rfl]
  by_cases h : (n : Int) ≤ 0
  · rw [if_pos h]
  · rw [if_neg h, if_pos (Int.le_refl 0)]
theorem mby_lp {H W n : Nat} (h0 : 0 < n) (hn : n < 10000) : ∀ (k m : Nat) (R : xN) (g : gG), k ≤ 4 → k < m → (k = 0 ∨ 10 ^ (k - 1) ≤ n) → GWg H W g → MRg R H W g → ∃ R', kLay R R' ∧ mres H W n k m R g R' := by
  intro k
  induction k with
  | zero =>
    intro m R g _ hm _ hw hM
    refine ⟨R, kLay.refl, Or.inl ⟨g, by rw [gdk, gall], fun X => ?_, hM⟩⟩
    cases m with
    | zero => exact absurd hm (Nat.lt_irrefl 0)
    | succ m => exact mby_end0
  | succ k ih =>
    intro m R g hk hm hkn hw hM
    cases m with
    | zero => exact absurd hm (Nat.not_lt_zero _)
    | succ m =>
      have hle : 10 ^ k ≤ n := by
        rcases hkn with h | h
        · exact absurd h (Nat.succ_ne_zero k)
        · rwa [Nat.add_sub_cancel] at h
      have hlt : ¬ n < 10 ^ k := Nat.not_lt_of_le hle
      have hkn' : k = 0 ∨ 10 ^ (k - 1) ≤ n := Or.inr (Nat.le_trans (Nat.pow_le_pow_right (by decide) (Nat.sub_le _ _)) hle)
      by_cases hf : gok (n / 10 ^ k % 10) g = true
      · obtain ⟨R1, a1, a2, a3⟩ := mfold_put hw hf hM
        obtain ⟨R', f1, f2⟩ := ih m R1 (gput (n / 10 ^ k % 10) g) (Nat.le_of_succ_le hk) (Nat.lt_of_succ_lt_succ hm) hkn' (hw.put hf) a2
        exact ⟨R', a3.trans f1, mres_ge h0 hn hk hlt hM hf a1 f2⟩
      · exact ⟨R, kLay.refl, mres_no h0 hn hk hlt hM hf⟩
theorem gall_dig : ∀ {fs : List Nat} {g g' : gG}, gall fs g = some g' → ∀ f ∈ fs, 1 ≤ f ∧ f ≤ 4 := by
  intro fs
  induction fs with
  | nil => intro g g' _ f hf; cases hf
  | cons x xs ih =>
    intro g g' h f hf
    rw [gall_cons] at h
    by_cases hx : gok x g = true
    · rw [if_pos hx] at h
      rcases List.mem_cons.mp hf with rfl | hf
      · unfold gok at hx
        rw [Bool.and_eq_true, decide_eq_true_eq] at hx
        exact hx.1
      · exact ih h f hf
    · rw [if_neg hx] at h; cases h
theorem gdk_big {n : Nat} (h : 4444 < n) (hn : n < 10000) {g g' : gG} (hg : gall (gdk 4 n) g = some g') : False := by
  rw [gdk_ge (k := 3) (by simp only [Nat.reducePow]; omega), gdk_ge (k := 2) (by simp only [Nat.reducePow]; omega), gdk_ge (k := 1) (by simp only [Nat.reducePow]; omega), gdk_ge (k := 0) (by simp only [Nat.reducePow]; omega)] at hg
  have d := gall_dig hg
  have d3 := d (n / 10 ^ 3 % 10) (by simp)
  have d2 := d (n / 10 ^ 2 % 10) (by simp)
  have d1 := d (n / 10 ^ 1 % 10) (by simp)
  have d0 := d (n / 10 ^ 0 % 10) (by simp)
  simp only [Nat.reducePow] at d0 d1 d2 d3
  omega
theorem book_iff {H W : Nat} {g : gG} (hw : GWg H W g) : 2 ^ g.2.2.1 = H * W ↔ g.1 = 1 ∧ g.2.1 = 1 := by
  obtain ⟨hH, hW, hr, hc, hk, hN, -⟩ := hw
  have hp : 0 < 2 ^ g.2.2.1 := Nat.pow_pos (by decide)
  have hk' : 2 ^ g.2.2.1 = 2 ^ g.2.2.1 := rfl
  generalize 2 ^ g.2.2.1 = d at hN hp ⊢
  have hA := area_le hH hW
  generalize H * W = N at hN hA ⊢
  rcases hr with h | h | h <;> rcases hc with h' | h' | h' <;> rw [h, h'] at hN ⊢ <;> omega
theorem cells_eq {R : xN} {H W : Nat} (hH : len H) (hW : len W) (h0 : R 324 0 = (H : Int)) (h1 : R 324 1 = (W : Int)) : f_X10_cells 323 R = some ((H * W : Nat) : Int) := by
  unfold f_X10_cells
  rw [show 323 + 1 = 324 from rfl, h0, h1, ← Int.natCast_mul, w4n (Nat.le_trans (area_le hH hW) (by decide))]
theorem gdk_up {n K : Nat} (h : n < 10 ^ K) (hK : K ≤ 4) : gdk 4 n = gdk K n := by
  have : ∀ j, K + j ≤ 4 → gdk (K + j) n = gdk K n := by
    intro j
    induction j with
    | zero => intro _; rfl
    | succ j ih =>
      intro hj
      rw [show K + (j + 1) = (K + j) + 1 from rfl, gdk_lt (Nat.lt_of_lt_of_le h (Nat.pow_le_pow_right (by decide) (Nat.le_add_right _ _)))]
      exact ih (Nat.le_of_succ_le hj)
  have h4 := this (4 - K) (by omega)
  rw [show K + (4 - K) = 4 by omega] at h4
  exact h4
/-- what the model does behind the loop of layBy -/
def mtail : Int → xN → Option (Bool × xN) := fun _ R18 => (f_X10_cells 323 R18).bind (fun v19 => if (R18 323 9) = v19 then some (true, R18) else some (false, R18))
theorem mby_K {H W n K : Nat} {R : xN} (hH : len H) (hW : len W) (h0 : R 324 0 = (H : Int)) (h1 : R 324 1 = (W : Int)) (hM : MRg R H W (gg0 H W)) (hn0 : 0 < n) (hK : 1 ≤ K ∧ K ≤ 4) (hn : n < 10 ^ K) (hn2 : 10 ^ (K - 1) ≤ n) (hn4 : n < 10000) : ∃ R', lp_X10_layBy_56 323 (n : Int) 6000 ((10 ^ (K - 1) : Nat) : Int) R mtail = some ((gbk H W (n : Int)).isSome, R') ∧ kLay R R' ∧ ∀ g, gbk H W (n : Int) = some g → MRg R' H W g := by
  obtain ⟨R', k1, k2⟩ := mby_lp hn0 hn4 K 6000 R (gg0 H W) hK.2 (by omega) (Or.inr hn2) (gg0_w hH hW) hM
  have hgu : gun K = 10 ^ (K - 1) := by unfold gun; rw [if_neg (by omega)]
  unfold mres at k2
  rw [hgu, ← gdk_up hn hK.2] at k2
  have z0' : R' 324 0 = (H : Int) := by rw [k1 324 0 (by omega) (by omega), h0]
  have z1' : R' 324 1 = (W : Int) := by rw [k1 324 1 (by omega) (by omega), h1]
  refine ⟨R', ?_, k1, fun g hg => ?_⟩
  · unfold gbk
    rcases k2 with ⟨g, a1, a2, a3⟩ | ⟨a1, a2⟩
    · have hle : n ≤ 4444 := Nat.le_of_not_lt (fun h => gdk_big h hn4 a1)
      rw [a2, if_pos (by omega), Int.toNat_natCast, a1, Option.bind_some]
      unfold mtail
      rw [cells_eq hH hW z0' z1', Option.bind_some, a3.2.2.1]
      have hb := book_iff ((gg0_w hH hW).all a1)
      by_cases hc : g.1 = 1 ∧ g.2.1 = 1
      · rw [if_pos hc, if_pos (congrArg _ (hb.mpr hc))]; rfl
      · rw [if_neg hc, if_neg (fun h => hc (hb.mp (Int.natCast_inj.mp h)))]; rfl
    · rw [a2, Int.toNat_natCast, a1]
      by_cases hi : (0 : Int) ≤ (n : Int) ∧ (n : Int) ≤ 4444
      · rw [if_pos hi]; rfl
      · rw [if_neg hi]; rfl
  · unfold gbk at hg
    by_cases hi : (0 : Int) ≤ (n : Int) ∧ (n : Int) ≤ 4444
    · rw [if_pos hi, Int.toNat_natCast] at hg
      rcases k2 with ⟨g1, a1, a2, a3⟩ | ⟨a1, a2⟩
      · rw [a1, Option.bind_some] at hg
        by_cases hc : g1.1 = 1 ∧ g1.2.1 = 1
        · rw [if_pos hc] at hg; cases hg; exact a3
        · rw [if_neg hc] at hg; cases hg
      · rw [a1] at hg; cases hg
    · rw [if_neg hi] at hg; cases hg
theorem gbk_0 {H W : Nat} : gbk H W 0 = if H = 1 ∧ W = 1 then some (gg0 H W) else none := by
  unfold gbk
  rw [if_pos ⟨by decide, by decide⟩, show ((0 : Int)).toNat = 0 from rfl, show gdk 4 0 = [] from rfl, gall, Option.bind_some]
  rfl
theorem mby {R : xN} {H W : Nat} {i : Int} (hH : len H) (hW : len W) (h0 : R 324 0 = (H : Int)) (h1 : R 324 1 = (W : Int)) : ∃ R', f_X10_layBy 323 i R = some ((gbk H W i).isSome, R') ∧ kLay R R' ∧ ∀ g, gbk H W i = some g → MRg R' H W g := by
  obtain ⟨R1, a1, a2, a3⟩ := lop_eq hH hW h0 h1
  have z0' : R1 324 0 = (H : Int) := by rw [a3 324 0 (by omega) (by omega), h0]
  have z1' : R1 324 1 = (W : Int) := by rw [a3 324 1 (by omega) (by omega), h1]
  unfold f_X10_layBy
  rw [a1, Option.bind_some]
  by_cases hneg : i < 0
  · rw [if_pos hneg]
    have hgn : gbk H W i = none := by unfold gbk; rw [if_neg (by omega)]
    rw [hgn]
    exact ⟨R1, rfl, a3, fun g hg => by cases hg⟩
  rw [if_neg hneg]
  by_cases h9 : i ≤ 9999
  · rw [if_pos h9]
    obtain ⟨n, rfl⟩ := Int.eq_ofNat_of_zero_le (show 0 ≤ i by omega)
    by_cases hn0 : n = 0
    · subst hn0
      rw [if_pos (by decide), if_pos (by decide), xlet_eq, if_pos (by decide)]
      have e : lp_X10_layBy_56 323 ((0 : Nat) : Int) 6000 1 R1 mtail = mtail 1 R1 := by
        rw [lp_X10_layBy_56, if_pos (by decide)]
      have e' : mtail 1 R1 = some ((gbk H W ((0 : Nat) : Int)).isSome, R1) := by
        unfold mtail
        rw [cells_eq hH hW z0' z1', Option.bind_some, a2.2.2.1, z0, gbk_0]
        have hb := book_iff (gg0_w hH hW)
        by_cases hc : H = 1 ∧ W = 1
        · rw [if_pos hc, if_pos (congrArg _ (hb.mpr hc))]; rfl
        · rw [if_neg hc, if_neg (fun h => hc (hb.mp (Int.natCast_inj.mp h)))]; rfl
      refine ⟨R1, e.trans e', a3, fun g hg => ?_⟩
      rw [z0, gbk_0] at hg
      by_cases hc : H = 1 ∧ W = 1
      · rw [if_pos hc] at hg; cases hg; exact a2
      · rw [if_neg hc] at hg; cases hg
    have fin : ∀ K : Nat, 1 ≤ K ∧ K ≤ 4 → n < 10 ^ K → 10 ^ (K - 1) ≤ n → ∃ R', lp_X10_layBy_56 323 (n : Int) 6000 ((10 ^ (K - 1) : Nat) : Int) R1 mtail = some ((gbk H W (n : Int)).isSome, R') ∧ kLay R R' ∧ ∀ g, gbk H W (n : Int) = some g → MRg R' H W g := fun K hK q1 q2 => by
      obtain ⟨R', b1, b2, b3⟩ := mby_K hH hW z0' z1' a2 (Nat.pos_of_ne_zero hn0) hK q1 q2 (by omega)
      exact ⟨R', b1, a3.trans b2, b3⟩
    by_cases c3 : n ≤ 999
    · rw [if_pos (show ((n : Nat) : Int) ≤ 999 by omega)]
      by_cases c2 : n ≤ 99
      · rw [if_pos (show ((n : Nat) : Int) ≤ 99 by omega), xlet_eq]
        by_cases c1 : n ≤ 9
        · rw [if_pos (show ((n : Nat) : Int) ≤ 9 by omega)]
          exact fin 1 ⟨by decide, by decide⟩ (show n < 10 by omega) (show 1 ≤ n by omega)
        · rw [if_neg (show ¬ ((n : Nat) : Int) ≤ 9 by omega)]
          exact fin 2 ⟨by decide, by decide⟩ (show n < 100 by omega) (show 10 ≤ n by omega)
      · rw [if_neg (show ¬ ((n : Nat) : Int) ≤ 99 by omega)]
        exact fin 3 ⟨by decide, by decide⟩ (show n < 1000 by omega) (show 100 ≤ n by omega)
    · rw [if_neg (show ¬ ((n : Nat) : Int) ≤ 999 by omega)]
      exact fin 4 ⟨by decide, by decide⟩ (show n < 10000 by omega) (show 1000 ≤ n by omega)
  · rw [if_neg h9]
    have hgn : gbk H W i = none := by unfold gbk; rw [if_neg (by omega)]
    rw [hgn]
    exact ⟨R1, rfl, a3, fun g hg => by cases hg⟩
